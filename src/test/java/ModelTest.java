import java.lang.reflect.InvocationTargetException;
import java.lang.reflect.Method;
import java.util.ArrayList;
import java.util.HashMap;
import java.util.List;
import java.util.Map;
import java.util.Random;

/** Long runs of calls, the same ones each time, on CookieJar and on ModelJar: both must answer alike. */
public final class ModelTest {
    private static final int RUNS = 500;
    private static final int STEPS = 90;

    /** Each run keeps to one of these families most of the time, so that its cookies meet. */
    private static final String[][] FAMILIES = {
        {"a.b", "x.a.b", "y.x.a.b"}, {"a.com", "b.a.com", "com"}, {"a.co.uk", "x.a.co.uk", "co.uk", "b.co.uk"},
        {"a.com", "ab.com", "a-b.com", "c.com", "a.b"}, {"a.b"}};
    private static final String[] HOSTS = {
        "a.b", "x.a.b", "y.x.a.b", "com", "a.com", "b.a.com", "ab.com", "a-b.com", "c.com", "co.uk", "a.co.uk",
        "x.a.co.uk", "b.co.uk", "uk", "a.uk", "a", "-", "0.9", "aaaaaaaaaaaaaaaaaaaaaaaaaa.com",
        "aaaaaaaaaaaaaaaaaaaaaaaaaaa.com"};
    private static final String[] PATHS = {
        "", "", "/", "/x", "/x/", "/x/y", "/xy", "/x/y/z", "//", "/ ", "/x;y", "/abcdefghijabcdefghijabcdefghijabcdefghi",
        "/abcdefghijabcdefghijabcdefghijabcdefgh/", "/abcdefghijabcdefghijabcdefghijabcdefghij"};
    private static final String[] QUERIES = {"", "", "", "?", "?q=1", "?/?", "?abcdefghijabcdefghijabcdefghijabcdefghij"};
    private static final String[] NAMES = {
        "a", "b", "c", "d", "A", "ab", "__Secure-a", "__Host-a", "__Host-", "__secure-a", "__Secure-", "", " ", "a b",
        "sixteen-letters-", "seventeen-letters"};
    private static final String[] VALUES = {
        "", "1", "22", "a=b", " x ", "\"q\"", "thirty-two-letters-is-the-most--", "thirty-three-letters-is-one-over-"};
    private static final String[] ATTRIBUTES = {
        "Secure", "Secure", "Secure=no", "HttpOnly", "HttpOnly=", "SameSite=None", "SameSite=Lax", "SameSite=STRICT",
        "SameSite=other", "SameSite", "Priority=Low", "Priority=medium", "Priority=HIGH", "Priority=top", "Path=/",
        "Path=/x", "Path=/x/", "Path=/x/y", "Path=x", "Path=", "Path", "Path=/abcdefghijabcdefghijabcdefghijabcdefghi",
        "Path=/abcdefghijabcdefghijabcdefghijabcdefghij", "Max-Age=0", "Max-Age=-1", "Max-Age=1", "Max-Age=5",
        "Max-Age=60", "Max-Age=34560000", "Max-Age=34560001", "Max-Age=999999999", "Max-Age=1000000000", "Max-Age=",
        "Max-Age=-", "Max-Age=+1", "Max-Age=1 0", "Max-Age=-000000000", "Max-Age=000000009", "Domain=", "Domain=.",
        "Domain=..", "Domain", "Other", "Other=1", "", "=", "=Secure", "Secure Path=/"};
    private static final String[] MONTHS = {
        "Jan", "Feb", "Mar", "Apr", "May", "Jun", "Jul", "Aug", "Sep", "Oct", "Nov", "Dec", "JAN", "jan", "Foo"};
    private static final String[] SUFFIXES = {"co.uk", "a.b", "com", "b", "x.a.b", "a.com", "uk", "github.io", "0.9", "a."};
    private static final String[] READERS = {
        "expiry", "created", "accessed", "serial", "isHostOnly", "isSecure", "isHttpOnly", "sameSite", "priority"};
    private static final String[] ROWS = {"nameChar", "valueChar", "domainChar", "pathChar"};

    private static final Map<String, Method> JAR_METHODS = methods(CookieJar.class);
    private static final Map<String, Method> MODEL_METHODS = methods(ModelJar.class);

    private final Random random;
    private final int run;
    private final CookieJar jar = new CookieJar();
    private final ModelJar model = new ModelJar();
    private final List<String> calls = new ArrayList<>();
    private final String[] family;
    private final boolean crowded;
    private String lastHost = "a.b";

    private ModelTest(int run) {
        this.run = run;
        this.random = new Random(run);
        this.family = FAMILIES[random.nextInt(FAMILIES.length)];
        this.crowded = random.nextInt(3) == 0;
    }

    /** The number of runs may be given, for a longer search. */
    public static void main(String[] args) {
        int runs = args.length > 0 ? Integer.parseInt(args[0]) : RUNS;
        for (int run = 1; run <= runs; run++) {
            new ModelTest(run).go();
        }
        System.out.println(runs + " runs, all alike");
    }

    private static Map<String, Method> methods(Class<?> type) {
        Map<String, Method> found = new HashMap<>();
        for (Method method : type.getDeclaredMethods()) {
            if (java.lang.reflect.Modifier.isPublic(method.getModifiers())) {
                method.setAccessible(true);
                found.put(method.getName(), method);
            }
        }
        return found;
    }

    private void go() {
        setUp();
        for (int step = 0; step < STEPS; step++) {
            step();
            observe();
            if (random.nextInt(20) == 0) {
                observeRows();
            }
        }
        observeRows();
    }

    private void setUp() {
        if (crowded || random.nextInt(2) == 0) {
            call("setLimit", 0, crowded ? 40 : 1 + random.nextInt(40));
        }
        if (crowded || random.nextInt(2) == 0) {
            call("setLimit", 1, crowded ? 40 : 1 + random.nextInt(40));
        }
        lastHost = one(family);
        typeAnew("https://" + lastHost + "/x/y");
        call("openRequest");
        call("setPolicy", random.nextInt(4));
        if (random.nextInt(2) == 0) {
            call("advance", random.nextInt(2) == 0 ? Integer.MAX_VALUE : 1000000000);
        }
    }

    private void step() {
        int kind = random.nextInt(100);
        if (kind < 12) {
            typeAnew(address());
            call("openRequest");
        } else if (kind < 15) {
            typeAnew(address());
            call("openPage");
        } else if (kind < 18) {
            typeAnew(one(SUFFIXES));
            call("addSuffix");
        } else if (kind < 66) {
            typeAnew(cookie());
            call("receive", random.nextInt(4) == 0);
        } else if (kind < 72) {
            call("send", random.nextBoolean(), random.nextBoolean());
        } else if (kind < 80) {
            call("advance", one(0, 1, 1, 1, 1, 5, 5, 60, 3000000, -1, Integer.MIN_VALUE, 40000000));
        } else {
            rareStep(random.nextInt(14));
        }
    }

    private void rareStep(int kind) {
        switch (kind) {
            case 0 -> call("remove", random.nextInt(25) - 2);
            case 1 -> call(random.nextInt(crowded ? 8 : 2) == 0 ? "clearSite" : "clearText");
            case 2 -> call(random.nextInt(crowded ? 8 : 2) == 0 ? "endSession" : "clearText");
            case 3 -> call("setLimit", random.nextInt(4) - 1, one(0, 1, 2, 3, 5, 10, 20, 39, 40, 41, -5));
            case 4 -> call("setPolicy", random.nextInt(6) - 1);
            case 5, 6 -> call("save", random.nextInt(4) - 1);
            case 7, 8 -> call("restore", random.nextInt(4) - 1);
            case 9 -> call("clearText");
            case 10 -> {
                typeAnew(mutated(one(HOSTS)));
                call("firstFrom");
            }
            case 11 -> call("type", one(31, 32, 126, 127, -1, 65, 0, Integer.MAX_VALUE));
            case 12 -> {
                typeMore(cookie());
                typeMore(cookie());
            }
            default -> call("receive", random.nextBoolean());
        }
    }

    private void typeAnew(String text) {
        call("clearText");
        typeMore(text);
    }

    private void typeMore(String text) {
        for (int k = 0; k < text.length(); k++) {
            call("type", (int) text.charAt(k));
        }
    }

    private String address() {
        lastHost = host();
        return mutated((random.nextInt(3) == 0 ? "http://" : "https://") + lastHost + one(PATHS) + one(QUERIES));
    }

    private String host() {
        return one(random.nextInt(10) > 0 ? family : HOSTS);
    }

    private String cookie() {
        StringBuilder text = new StringBuilder(blanks() + name() + blanks());
        if (random.nextInt(50) > 0) {
            text.append("=").append(blanks()).append(VALUES[random.nextInt(random.nextInt(8) == 0 ? 8 : 7)]).append(blanks());
        }
        for (int n = random.nextInt(5); n > 0; n--) {
            text.append(";").append(blanks()).append(attribute()).append(blanks());
        }
        return mutated(text.toString());
    }

    private String name() {
        if (crowded && random.nextInt(2) == 0) {
            return String.valueOf((char) ('e' + random.nextInt(20)));
        }
        return random.nextInt(4) == 0 ? one(NAMES) : NAMES[random.nextInt(3)];
    }

    /** Mostly a domain that the host of the request matches. */
    private String domain() {
        if (random.nextInt(4) == 0) {
            return letters(one(HOSTS));
        }
        int dot = lastHost.indexOf('.');
        return letters(dot < 0 || random.nextBoolean() ? lastHost : lastHost.substring(dot + 1));
    }

    private String attribute() {
        int kind = random.nextInt(10);
        if (kind < 2) {
            return letters("Domain") + "=" + (random.nextInt(4) == 0 ? "." : "") + domain();
        }
        if (kind < 3) {
            return letters("Expires") + "=" + date();
        }
        String attribute = one(ATTRIBUTES);
        int sign = attribute.indexOf('=');
        return sign < 0 ? letters(attribute) : letters(attribute.substring(0, sign)) + blanks() + attribute.substring(sign);
    }

    private String date() {
        String year = one(new String[] {"1970", "1970", "1971", "1972", "2000", "2001", "2038", "2100", "9999", "1969"});
        return String.format("%02d %s %s %02d:%02d:%02d", one(0, 1, 15, 28, 29, 30, 31, 32), one(MONTHS), year,
                one(0, 9, 23, 24), one(0, 30, 59, 60), one(0, 30, 59, 60));
    }

    /** The same letters, perhaps in other cases. */
    private String letters(String word) {
        return switch (random.nextInt(6)) {
            case 0 -> word.toUpperCase();
            case 1 -> word.toLowerCase();
            default -> word;
        };
    }

    private String blanks() {
        return random.nextInt(6) == 0 ? "  " : "";
    }

    private String mutated(String text) {
        if (random.nextInt(12) > 0 || text.isEmpty()) {
            return text.length() > 160 ? text.substring(0, 160) : text;
        }
        int at = random.nextInt(text.length());
        String put = random.nextInt(3) == 0 ? "" : String.valueOf("a./?:;= -Z0~".charAt(random.nextInt(12)));
        return text.substring(0, at) + put + text.substring(at + random.nextInt(2));
    }

    private String one(String[] of) {
        return of[random.nextInt(of.length)];
    }

    private int one(int... of) {
        return of[random.nextInt(of.length)];
    }

    private void observe() {
        for (String name : new String[] {"isSameSite", "time", "nextExpiry", "victim", "fingerprint", "firstFrom"}) {
            call(name);
        }
        for (int depth = 0; depth <= 1; depth++) {
            call("rejection", depth);
        }
        for (int event = 0; event <= 6; event++) {
            call("count", event);
        }
        int size = (int) call("cookies");
        int beyond = random.nextInt(20) == 0 ? 1 : 0;
        for (int i = -beyond; i < size + beyond; i++) {
            for (String name : READERS) {
                call(name, i);
            }
            for (int way = 0; way < 4; way++) {
                call("wouldSend", i, way > 1, way % 2 == 1);
            }
        }
    }

    private void observeRows() {
        call("rejection", one(-1, 2));
        call("count", one(-1, 7));
        observeRow("headerChar");
        observeRow("siteChar");
        int size = (int) call("cookies");
        for (int i = -1; i <= size; i++) {
            for (String name : ROWS) {
                call(name, i, -1);
                for (int k = 0; k < (i >= 0 && i < size ? 42 : 1); k++) {
                    call(name, i, k);
                }
                call(name, i, Integer.MAX_VALUE);
            }
        }
    }

    private void observeRow(String name) {
        call(name, -1);
        call(name, Integer.MAX_VALUE);
        for (int k = 0; call(name, k) >= 0; k++) {
            continue;
        }
    }

    private long call(String name, Object... arguments) {
        long got = answer(JAR_METHODS.get(name), jar, arguments);
        long want = answer(MODEL_METHODS.get(name), model, arguments);
        if (JAR_METHODS.get(name).getReturnType() == int.class || got != want) {
            note(name, arguments, got);
        }
        if (got != want) {
            fail(want);
        }
        return got;
    }

    /** Keeps the calls that change something, or the one that went wrong. */
    private void note(String name, Object[] arguments, long got) {
        if (name.endsWith("Char") || name.equals("count") || name.equals("rejection") || name.equals("wouldSend")) {
            if (calls.size() > 0 && calls.get(calls.size() - 1).startsWith("? ")) {
                calls.remove(calls.size() - 1);
            }
            calls.add("? " + name + java.util.Arrays.toString(arguments) + " = " + got);
        } else {
            calls.add(name + java.util.Arrays.toString(arguments) + " = " + got);
        }
    }

    private void fail(long want) {
        for (String call : calls.subList(Math.max(0, calls.size() - 400), calls.size())) {
            System.out.println(call);
        }
        System.out.println("run " + run + ": the last answer is not as due, which is " + want);
        System.exit(1);
    }

    private static long answer(Method method, Object object, Object[] arguments) {
        try {
            Object answer = method.invoke(object, arguments);
            if (answer instanceof Boolean) {
                return (Boolean) answer ? 1 : 0;
            }
            return ((Number) answer).longValue();
        } catch (InvocationTargetException e) {
            return Calls.answer(() -> {
                throw (RuntimeException) e.getCause();
            });
        } catch (IllegalAccessException e) {
            throw new AssertionError(e);
        }
    }
}
