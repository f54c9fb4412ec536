/** Promises 1 to 8: a new object, the text, addresses, sites and suffixes. */
public final class TextTest {
    private static final String TEN = "abcdefghij";
    private static final String THIRTY = TEN + TEN + TEN;

    public static void main(String[] args) {
        newObject();
        type();
        clearText();
        addresses();
        errorPositions();
        openingKeepsPagesAndRequestsApart();
        sameSite();
        siteChar();
        addSuffix();
        Calls.end();
    }

    private static void newObject() {
        CookieJar jar = new CookieJar();
        Calls.due("1 cookies()", 0, jar::cookies);
        Calls.due("1 time()", 0, jar::time);
        Calls.due("1 clearText()", 0, jar::clearText);
        Calls.due("1 nextExpiry()", -1, jar::nextExpiry);
        Calls.due("1 victim()", -1, jar::victim);
        Calls.due("1 headerChar(0)", -1, () -> jar.headerChar(0));
        Calls.due("1 rejection(1)", 0, () -> jar.rejection(1));
        Calls.due("1 setPolicy(0)", 0, () -> jar.setPolicy(0));
        Calls.due("1 setLimit(0, 5)", 5, () -> jar.setLimit(0, 5));
        Calls.due("1 setLimit(1, 20)", 20, () -> jar.setLimit(1, 20));
        for (int event = 0; event < 7; event++) {
            int e = event;
            Calls.due("1 count(" + e + ")", 0, () -> jar.count(e));
        }
        Calls.due("1 no request", Calls.BAD_STATE, () -> jar.send(false, false));
        Calls.due("1 no snapshot", Calls.BAD_STATE, () -> jar.restore(1));
        Calls.due("1 fingerprint()", 19616493861143L, jar::fingerprint);
        CookieJar other = Calls.jarAt("http://a.b");
        Calls.receive(other, "a=1");
        Calls.due("1 objects share nothing", 0, jar::cookies);
    }

    private static void type() {
        CookieJar jar = new CookieJar();
        Calls.due("2 lowest code", 1, () -> jar.type(32));
        Calls.due("2 highest code", 2, () -> jar.type(126));
        for (int c : new int[] {31, 127, 0, -1, 255, 65568, Integer.MIN_VALUE, Integer.MAX_VALUE}) {
            Calls.due("2 type(" + c + ")", Calls.BAD_ARGUMENT, () -> jar.type(c));
        }
        for (int n = 3; n <= 160; n++) {
            Calls.due("2 length", n, () -> jar.type('x'));
        }
        Calls.due("2 full", Calls.BAD_STATE, () -> jar.type('x'));
        Calls.due("2 full and no code", Calls.BAD_ARGUMENT, () -> jar.type(127));
        Calls.due("2 nothing changed", 160, jar::clearText);
        Calls.due("2 room again", 1, () -> jar.type('x'));
    }

    private static void clearText() {
        CookieJar jar = new CookieJar();
        Calls.due("3 empty", 0, jar::clearText);
        Calls.type(jar, "abc");
        Calls.due("3 three", 3, jar::clearText);
        Calls.due("3 empty again", 0, jar::clearText);
        Calls.due("3 the text is gone", 0, () -> Calls.request(jar, "http://a"));
    }

    /** Both calls read alike. */
    private static void address(String text, int want) {
        CookieJar jar = new CookieJar();
        Calls.due("4 \"" + text + "\"", want, () -> Calls.page(jar, text));
        Calls.due("4 text then", want < 0 ? text.length() : 0, jar::clearText);
        Calls.due("4 no request by it", Calls.BAD_STATE, () -> jar.isSameSite() ? 1 : 0);
        Calls.due("5 \"" + text + "\"", want, () -> Calls.request(jar, text));
        Calls.due("5 text then", want < 0 ? text.length() : 0, jar::clearText);
        Calls.due("5 request by it", want < 0 ? Calls.BAD_STATE : 1, () -> jar.isSameSite() ? 1 : 0);
    }

    private static void addresses() {
        address("http://a", 0);
        address("https://a", 1);
        address("http://a.b", 0);
        address("https://-", 1);
        address("https://a/", 1);
        address("https://0-9.z/x y;=~\"/", 1);
        address("https://a?", 1);
        address("https://a?x?y/z", 1);
        address("https://a/?", 1);
        address("https://" + THIRTY, 1);
        address("https://" + THIRTY + "/", 1);
        address("http://" + THIRTY.substring(2) + ".a", 0);
        address("https://a/" + THIRTY + "abcdefghi", 1);
        address("https://a/" + THIRTY + "abcdefghi?" + THIRTY + THIRTY, 1);
    }

    private static void errorPositions() {
        address("", -1);
        address("h", -2);
        address("htt", -4);
        address("http", -5);
        address("https", -6);
        address("https:/", -8);
        address("http://", -8);
        address("https://", -9);
        address("x", -1);
        address("HTTP://a", -1);
        address(" http://a", -1);
        address("htps://a", -3);
        address("httpx://a", -5);
        address("httpss://a", -6);
        address("http//a", -5);
        address("http:a", -6);
        address("http:/a", -7);
        address("http:///a", -8);
        address("http://?", -8);
        address("http://.a", -8);
        address("http://A", -8);
        address("http://a.", -10);
        address("http://a..b", -10);
        address("http://a./", -10);
        address("http://a.?", -10);
        address("http://a_b", -9);
        address("http://a:80", -9);
        address("http://a b", -9);
        address("http://" + THIRTY + "a", -38);
        address("http://" + THIRTY + ".", -38);
        // a dot as the thirtieth character leaves no room for a label
        address("http://" + THIRTY.substring(1) + ".", -37);
        address("http://" + THIRTY.substring(2) + ".", -37);
        address("https://a/" + THIRTY + "abcdefghij", -50);
        address("https://a/" + THIRTY + "abcdefghijk?", -50);
    }

    private static void openingKeepsPagesAndRequestsApart() {
        CookieJar jar = Calls.jarAt("http://a.b/x");
        Calls.due("5 wrong text", -1, () -> Calls.request(jar, "?"));
        Calls.due("5 the request stays", "a.b", Calls.site(jar));
        Calls.due("5 another request", 1, () -> Calls.request(jar, "https://c.d"));
        Calls.due("5 is read", "c.d", Calls.site(jar));
        Calls.due("4 a page", 0, () -> Calls.page(jar, "http://e.f"));
        Calls.due("4 is not the request", "c.d", Calls.site(jar));
        Calls.due("4 but is read", false, jar.isSameSite());
        Calls.due("4 wrong text", -8, () -> Calls.page(jar, "http://"));
        Calls.due("4 the page stays", false, jar.isSameSite());
        Calls.due("5 path of the request", 1, () -> Calls.receive(jar, "a=1"));
        Calls.due("5 without a path", "/", Calls.path(jar, 0));
    }

    private static void sameSite(String page, String request, boolean want) {
        CookieJar jar = Calls.jarAt(request);
        Calls.due("6 without a page", true, jar.isSameSite());
        Calls.page(jar, page);
        Calls.due("6 " + page + " to " + request, want, jar.isSameSite());
    }

    private static void sameSite() {
        CookieJar none = new CookieJar();
        Calls.page(none, "http://a.b");
        Calls.due("6 without a request", Calls.BAD_STATE, () -> none.isSameSite() ? 1 : 0);
        sameSite("http://a.b", "http://a.b", true);
        sameSite("http://x.a.b/p", "http://y.a.b/q", true);
        sameSite("http://a.b", "http://x.a.b", true);
        sameSite("https://a.b", "http://a.b", false);
        sameSite("http://a.b", "https://a.b", false);
        sameSite("http://a.b", "http://c.b", false);
        sameSite("http://a.b", "http://a.c", false);
        sameSite("http://a.b", "http://xa.b", false);
        sameSite("http://b", "http://a.b", false);
        sameSite("http://b", "http://b", true);
        CookieJar jar = Calls.jarAt("http://a.co.uk");
        Calls.page(jar, "http://b.co.uk");
        Calls.due("6 before the suffix", true, jar.isSameSite());
        Calls.suffix(jar, "co.uk");
        Calls.due("6 behind the suffix", false, jar.isSameSite());
    }

    private static void site(String host, String want, String... suffixes) {
        CookieJar jar = Calls.jarAt("http://" + host);
        for (String suffix : suffixes) {
            Calls.suffix(jar, suffix);
        }
        Calls.due("7 site of " + host, want, Calls.site(jar));
    }

    private static void siteChar() {
        site("a", "a");
        site("a.b", "a.b");
        site("c.a.b", "a.b");
        site("d.c.a.b", "a.b");
        site("a.co.uk", "co.uk");
        site("a.co.uk", "a.co.uk", "co.uk");
        site("b.a.co.uk", "a.co.uk", "co.uk");
        site("co.uk", "co.uk", "co.uk");
        site("uk", "uk", "co.uk");
        site("x.uk", "x.uk", "co.uk");
        site("x.xco.uk", "xco.uk", "co.uk");
        site("z.y.x.co.uk", "z.y.x.co.uk", "co.uk", "y.x.co.uk", "x.co.uk");
        site("z.w.x.co.uk", "w.x.co.uk", "co.uk", "y.x.co.uk", "x.co.uk");
        CookieJar jar = new CookieJar();
        Calls.due("7 no request", Calls.BAD_STATE, () -> jar.siteChar(0));
        Calls.due("7 no request, negative", Calls.BAD_STATE, () -> jar.siteChar(-1));
        Calls.request(jar, "http://x.a.b");
        Calls.due("7 negative", Calls.BAD_INDEX, () -> jar.siteChar(-1));
        Calls.due("7 most negative", Calls.BAD_INDEX, () -> jar.siteChar(Integer.MIN_VALUE));
        Calls.due("7 last", 'b', () -> jar.siteChar(2));
        Calls.due("7 behind", -1, () -> jar.siteChar(3));
        Calls.due("7 far behind", -1, () -> jar.siteChar(Integer.MAX_VALUE));
    }

    private static void addSuffix() {
        CookieJar jar = new CookieJar();
        String[] wrong = {"", ".", "a.", ".a", "a..b", "A", "a b", "a/b", THIRTY + "a"};
        for (String text : wrong) {
            Calls.due("8 \"" + text + "\"", Calls.BAD_ARGUMENT, () -> Calls.suffix(jar, text));
            Calls.due("8 the text stays", text.length(), jar::clearText);
        }
        Calls.due("8 first", 1, () -> Calls.suffix(jar, "a"));
        Calls.due("8 the text is empty", 0, jar::clearText);
        Calls.due("8 again", Calls.BAD_ARGUMENT, () -> Calls.suffix(jar, "a"));
        Calls.due("8 thirty", 2, () -> Calls.suffix(jar, THIRTY));
        for (int n = 3; n <= 6; n++) {
            String suffix = "a." + n;
            Calls.due("8 " + suffix, n, () -> Calls.suffix(jar, suffix));
        }
        Calls.due("8 a seventh", Calls.BAD_STATE, () -> Calls.suffix(jar, "a.7"));
        Calls.due("8 the text stays", 3, jar::clearText);
        Calls.due("8 six, and there already", Calls.BAD_ARGUMENT, () -> Calls.suffix(jar, "a.6"));
        Calls.due("8 six, and no domain", Calls.BAD_ARGUMENT, () -> Calls.suffix(jar, "."));

        CookieJar kept = Calls.jarAt("http://a.co.uk");
        Calls.receive(kept, "a=1; Domain=co.uk");
        Calls.suffix(kept, "co.uk");
        Calls.due("8 cookies stay", 1, kept::cookies);
        Calls.due("8 as they are", false, kept.isHostOnly(0));
        Calls.due("8 and go", 1, () -> kept.send(false, false));
    }
}
