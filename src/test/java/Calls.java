/** What the tests share: typing whole texts, reading rows of characters back, and counting what is wrong. */
final class Calls {
    /** The number that stands for an exception among the answers. */
    static final long BAD_ARGUMENT = -1001;
    static final long BAD_STATE = -1002;
    static final long BAD_INDEX = -1003;

    private static int wrong = 0;
    private static int checks = 0;
    /** Stands before what is told of a wrong answer. */
    private static String sentence = "";

    /** A call whose answer is a number; a boolean counts 1 or 0. */
    interface Call {
        long answer();
    }

    private Calls() {
    }

    static long answer(Call call) {
        try {
            return call.answer();
        } catch (RuntimeException e) {
            return code(e);
        }
    }

    private static long code(RuntimeException e) {
        if (e.getClass() == IllegalArgumentException.class) {
            return BAD_ARGUMENT;
        }
        if (e.getClass() == IllegalStateException.class) {
            return BAD_STATE;
        }
        if (e.getClass() == IndexOutOfBoundsException.class && isThrownByJar(e)) {
            return BAD_INDEX;
        }
        throw e;
    }

    /** The machine throws subclasses of this one, and the library throws it itself: neither is ours. */
    private static boolean isThrownByJar(RuntimeException e) {
        StackTraceElement[] trace = e.getStackTrace();
        return trace.length > 0 && trace[0].getClassName().contains("Jar");
    }

    /** Names the sentence of the document that the answers behind this call are due by. */
    static void sentence(String quoted) {
        sentence = "\"" + quoted + "\" ";
    }

    static void due(String what, long want, Call call) {
        long got = answer(call);
        checks++;
        if (got != want) {
            wrong++;
            System.out.println(sentence + what + ": answered " + got + ", due is " + want);
        }
    }

    static void due(String what, boolean want, boolean got) {
        due(what, want ? 1 : 0, () -> got ? 1 : 0);
    }

    static void due(String what, String want, String got) {
        checks++;
        if (!want.equals(got)) {
            wrong++;
            System.out.println(sentence + what + ": answered \"" + got + "\", due is \"" + want + "\"");
        }
    }

    /** Ends a test: exit code 1 if an answer was wrong, or nothing was looked at. */
    static void end() {
        System.out.println(checks + " answers, " + wrong + " not as due");
        if (wrong != 0 || checks == 0) {
            System.exit(1);
        }
    }

    static void type(CookieJar jar, String text) {
        for (int k = 0; k < text.length(); k++) {
            jar.type(text.charAt(k));
        }
    }

    static int page(CookieJar jar, String address) {
        jar.clearText();
        type(jar, address);
        return jar.openPage();
    }

    static int request(CookieJar jar, String address) {
        jar.clearText();
        type(jar, address);
        return jar.openRequest();
    }

    static int suffix(CookieJar jar, String domain) {
        jar.clearText();
        type(jar, domain);
        return jar.addSuffix();
    }

    static int firstFrom(CookieJar jar, String domain) {
        jar.clearText();
        type(jar, domain);
        return jar.firstFrom();
    }

    static int receive(CookieJar jar, String cookie) {
        return receive(jar, cookie, false);
    }

    static int receive(CookieJar jar, String cookie, boolean script) {
        jar.clearText();
        type(jar, cookie);
        return jar.receive(script);
    }

    /** Lets more time pass than one call can. */
    static void advanceTo(CookieJar jar, long time) {
        for (long left = time - jar.time(); left > 0; left = time - jar.time()) {
            jar.advance((int) Math.min(left, Integer.MAX_VALUE));
        }
    }

    /** A new jar with a request. */
    static CookieJar jarAt(String address) {
        CookieJar jar = new CookieJar();
        if (request(jar, address) < 0) {
            throw new AssertionError("not an address: " + address);
        }
        return jar;
    }

    interface Letter {
        int at(int k);
    }

    static String row(Letter letter) {
        StringBuilder row = new StringBuilder();
        for (int k = 0; letter.at(k) != -1; k++) {
            row.append((char) letter.at(k));
        }
        return row.toString();
    }

    static String header(CookieJar jar) {
        return row(jar::headerChar);
    }

    static String site(CookieJar jar) {
        return row(jar::siteChar);
    }

    static String name(CookieJar jar, int i) {
        return row(k -> jar.nameChar(i, k));
    }

    static String value(CookieJar jar, int i) {
        return row(k -> jar.valueChar(i, k));
    }

    static String domain(CookieJar jar, int i) {
        return row(k -> jar.domainChar(i, k));
    }

    static String path(CookieJar jar, int i) {
        return row(k -> jar.pathChar(i, k));
    }

    /** The names of all cookies in their order. */
    static String names(CookieJar jar) {
        StringBuilder names = new StringBuilder();
        for (int i = 0; i < jar.cookies(); i++) {
            names.append(i > 0 ? " " : "").append(name(jar, i));
        }
        return names.toString();
    }
}
