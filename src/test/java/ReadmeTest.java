import java.io.IOException;
import java.lang.reflect.Method;
import java.lang.reflect.Modifier;
import java.nio.file.Files;
import java.nio.file.Path;
import java.util.List;

/** README.md: its example answers as it says, line by line, and it names every call of the face. */
public final class ReadmeTest {
    private final List<String> lines;
    private final CookieJar jar = new CookieJar();
    /** The line of the example that was looked at last. */
    private int at = -1;

    private ReadmeTest(List<String> lines) {
        this.lines = lines;
    }

    public static void main(String[] args) throws IOException {
        ReadmeTest test = new ReadmeTest(Files.readAllLines(Path.of("README.md")));
        test.example();
        test.everyCall();
        Calls.end();
    }

    private void example() {
        at = lines.indexOf("CookieJar jar = new CookieJar();");
        Calls.due("README.md has an example", true, at >= 0);
        typed("co.example");
        answered("jar.addSuffix();", jar.addSuffix());
        typed("https://www.shop.co.example/cart/list");
        answered("jar.openRequest();", jar.openRequest());
        typed("id=7; Secure; Path=/cart; Max-Age=60");
        answered("jar.receive(false);", jar.receive(false));
        typed("lang=en; Domain=shop.co.example; Path=/");
        answered("jar.receive(false);", jar.receive(false));
        typed("all=1; Domain=co.example");
        answered("jar.receive(false);", jar.receive(false));
        answered("jar.rejection(1);", jar.rejection(1));
        answered("jar.save(0);", jar.save(0));
        answered("jar.send(true, false);", jar.send(true, false));
        line("header(jar);", Calls.header(jar));
        answered("jar.advance(60);", jar.advance(60));
        answered("jar.send(true, false);", jar.send(true, false));
        line("header(jar);", Calls.header(jar));
        answered("jar.restore(0);", jar.restore(0));
        answered("jar.time();", jar.time());
        typed("http://shop.co.example:80");
        answered("jar.openRequest();", jar.openRequest());
        Calls.due("the example ends", "```", next());
    }

    private String next() {
        at++;
        return at < lines.size() ? lines.get(at) : "";
    }

    private void typed(String text) {
        Calls.due("a line of the example", "type(jar, \"" + text + "\");", next());
        Calls.type(jar, text);
    }

    /** The next line has the call, and its comment tells this answer and then what it means. */
    private void answered(String call, long answer) {
        String line = next();
        int colon = line.lastIndexOf(": ");
        Calls.due("a line of the example", call + " // " + answer, withSingleBlanks(line, Math.max(colon, 0)));
    }

    private void line(String call, String answer) {
        String line = next();
        Calls.due("a line of the example", call + " // " + answer, withSingleBlanks(line, line.length()));
    }

    private static String withSingleBlanks(String line, int end) {
        return line.substring(0, end).replaceAll(" +//", " //");
    }

    private void everyCall() {
        String whole = String.join("\n", lines);
        for (Method method : CookieJar.class.getDeclaredMethods()) {
            if (Modifier.isPublic(method.getModifiers())) {
                String name = "`" + method.getName() + "`";
                Calls.due("README.md names " + name, true, whole.contains(name));
            }
        }
    }
}
