import java.lang.reflect.Constructor;
import java.lang.reflect.Field;
import java.lang.reflect.Method;
import java.lang.reflect.Modifier;
import java.util.Arrays;
import java.util.TreeSet;

/** The face of the class, member by member, and the rules for what stands behind it. */
public final class FaceTest {
    private static final String ARGUMENT = "IllegalArgumentException";
    private static final String STATE = "IllegalStateException";
    private static final String INDEX = "IndexOutOfBoundsException";

    private static final String[] FACE = {
        "int type(int) " + ARGUMENT + " " + STATE,
        "int clearText()",
        "int openPage()",
        "int openRequest()",
        "boolean isSameSite() " + STATE,
        "int siteChar(int) " + STATE + " " + INDEX,
        "int addSuffix() " + ARGUMENT + " " + STATE,
        "int receive(boolean) " + STATE,
        "int rejection(int) " + INDEX,
        "int send(boolean,boolean) " + STATE,
        "int headerChar(int) " + INDEX,
        "boolean wouldSend(int,boolean,boolean) " + STATE + " " + INDEX,
        "int cookies()",
        "int nameChar(int,int) " + INDEX,
        "int valueChar(int,int) " + INDEX,
        "int domainChar(int,int) " + INDEX,
        "int pathChar(int,int) " + INDEX,
        "long expiry(int) " + INDEX,
        "long created(int) " + INDEX,
        "long accessed(int) " + INDEX,
        "int serial(int) " + INDEX,
        "boolean isHostOnly(int) " + INDEX,
        "boolean isSecure(int) " + INDEX,
        "boolean isHttpOnly(int) " + INDEX,
        "int sameSite(int) " + INDEX,
        "int priority(int) " + INDEX,
        "int firstFrom() " + ARGUMENT,
        "int remove(int) " + INDEX,
        "int clearSite() " + STATE,
        "int endSession()",
        "int advance(int) " + ARGUMENT,
        "long time()",
        "long nextExpiry()",
        "int setLimit(int,int) " + INDEX + " " + ARGUMENT,
        "int setPolicy(int) " + ARGUMENT,
        "int victim()",
        "int count(int) " + INDEX,
        "int save(int) " + INDEX,
        "int restore(int) " + INDEX + " " + STATE,
        "long fingerprint()"};

    public static void main(String[] args) {
        Calls.due("public", true, Modifier.isPublic(CookieJar.class.getModifiers()));
        Calls.due("final", true, Modifier.isFinal(CookieJar.class.getModifiers()));
        methods();
        constructors();
        fields(CookieJar.class);
        nestedClasses();
        Calls.end();
    }

    private static void methods() {
        TreeSet<String> found = new TreeSet<>();
        TreeSet<String> names = new TreeSet<>();
        for (Method method : CookieJar.class.getDeclaredMethods()) {
            if (!Modifier.isPrivate(method.getModifiers())) {
                found.add(text(method));
                names.add(method.getName());
                Calls.due(method + " is public", true, Modifier.isPublic(method.getModifiers()));
                Calls.due(method + " is no static one", false, Modifier.isStatic(method.getModifiers()));
            }
        }
        Calls.due("methods", new TreeSet<>(Arrays.asList(FACE)).toString(), found.toString());
        noOtherBears(names, CookieJar.class, Modifier.PRIVATE);
    }

    private static void noOtherBears(TreeSet<String> names, Class<?> type, int modifiers) {
        for (Method method : type.getDeclaredMethods()) {
            if ((method.getModifiers() & modifiers) == modifiers) {
                Calls.due(method + " bears a name of the face", false, names.contains(method.getName()));
            }
            Calls.due(method + " has at most seven parameters", true, method.getParameterCount() <= 7);
        }
    }

    private static String text(Method method) {
        StringBuilder text = new StringBuilder();
        text.append(method.getReturnType().getName()).append(' ').append(method.getName()).append('(');
        String[] parameters = Arrays.stream(method.getParameterTypes()).map(Class::getName).toArray(String[]::new);
        text.append(String.join(",", parameters)).append(')');
        for (Class<?> exception : method.getExceptionTypes()) {
            text.append(' ').append(exception.getSimpleName());
        }
        return text.toString();
    }

    private static void constructors() {
        Constructor<?>[] all = CookieJar.class.getDeclaredConstructors();
        Calls.due("one constructor", 1, () -> all.length);
        Calls.due("is public", true, Modifier.isPublic(all[0].getModifiers()));
        Calls.due("without parameters", 0, () -> all[0].getParameterCount());
    }

    private static void fields(Class<?> type) {
        int held = 0;
        for (Field field : type.getDeclaredFields()) {
            int modifiers = field.getModifiers();
            boolean isStatic = Modifier.isStatic(modifiers);
            Calls.due(field + " is private in the face", true, type != CookieJar.class || Modifier.isPrivate(modifiers));
            Calls.due(field + " is final if it is static", true, !isStatic || Modifier.isFinal(modifiers));
            held += isStatic ? 0 : 1;
        }
        Calls.due(type + " has some twenty fields", true, held <= 20);
    }

    private static void nestedClasses() {
        TreeSet<String> names = new TreeSet<>();
        for (String line : FACE) {
            names.add(line.substring(line.indexOf(' ') + 1, line.indexOf('(')));
        }
        Class<?>[] nested = CookieJar.class.getDeclaredClasses();
        Calls.due("some twelve classes", true, nested.length < 12);
        for (Class<?> type : nested) {
            int modifiers = type.getModifiers();
            Calls.due(type + " is static", true, Modifier.isStatic(modifiers));
            Calls.due(type + " is not open", false, Modifier.isPublic(modifiers) || Modifier.isProtected(modifiers));
            fields(type);
            noOtherBears(names, type, 0);
        }
    }
}
