/** Promises 11 to 13: what goes with a request, and the header. */
public final class SendTest {
    public static void main(String[] args) {
        exceptions();
        hosts();
        paths();
        secureAndScript();
        sites();
        orderAndHeader();
        accessTimes();
        wouldSendChangesNothing();
        longestHeader();
        Calls.end();
    }

    private static void exceptions() {
        CookieJar jar = new CookieJar();
        Calls.due("11 no request", Calls.BAD_STATE, () -> jar.send(true, true));
        Calls.due("13 no request", Calls.BAD_STATE, () -> jar.wouldSend(-1, true, true) ? 1 : 0);
        Calls.due("12 no header", -1, () -> jar.headerChar(0));
        Calls.due("12 no header, far", -1, () -> jar.headerChar(Integer.MAX_VALUE));
        Calls.due("12 negative", Calls.BAD_INDEX, () -> jar.headerChar(-1));
        Calls.due("12 most negative", Calls.BAD_INDEX, () -> jar.headerChar(Integer.MIN_VALUE));
        Calls.request(jar, "http://a.b");
        Calls.due("11 nothing to send", 0, () -> jar.send(false, false));
        Calls.due("12 an empty header", "", Calls.header(jar));
        Calls.due("13 no such cookie", Calls.BAD_INDEX, () -> jar.wouldSend(0, true, true) ? 1 : 0);
        Calls.receive(jar, "a=1");
        Calls.due("13 negative", Calls.BAD_INDEX, () -> jar.wouldSend(-1, true, true) ? 1 : 0);
        Calls.due("13 too large", Calls.BAD_INDEX, () -> jar.wouldSend(1, true, true) ? 1 : 0);
        Calls.due("13 the cookie", 1, () -> jar.wouldSend(0, true, true) ? 1 : 0);
    }

    /** Both calls answer alike for a jar of one cookie. */
    private static void goes(CookieJar jar, String why, boolean navigation, boolean script, boolean want) {
        Calls.due("13 " + why, want, jar.wouldSend(0, navigation, script));
        Calls.due("11 " + why, want ? 1 : 0, () -> jar.send(navigation, script));
    }

    private static void goesWith(String cookie, String from, String to, boolean want) {
        CookieJar jar = Calls.jarAt(from);
        Calls.due("9 " + cookie, 1, () -> Calls.receive(jar, cookie));
        Calls.request(jar, to);
        goes(jar, cookie + " from " + from + " to " + to, false, false, want);
    }

    private static void hosts() {
        goesWith("a=1", "http://x.a.b", "http://x.a.b", true);
        goesWith("a=1", "http://x.a.b", "http://a.b", false);
        goesWith("a=1", "http://x.a.b", "http://y.x.a.b", false);
        goesWith("a=1; Domain=a.b", "http://x.a.b", "http://a.b", true);
        goesWith("a=1; Domain=a.b", "http://x.a.b", "http://y.z.a.b", true);
        goesWith("a=1; Domain=a.b", "http://x.a.b", "http://xa.b", false);
        goesWith("a=1; Domain=a.b", "http://x.a.b", "http://b", false);
        goesWith("a=1; Domain=x.a.b", "http://x.a.b", "http://a.b", false);
    }

    private static void paths() {
        goesWith("a=1; Path=/x", "http://a", "http://a/x", true);
        goesWith("a=1; Path=/x", "http://a", "http://a/x/", true);
        goesWith("a=1; Path=/x", "http://a", "http://a/x/y", true);
        goesWith("a=1; Path=/x", "http://a", "http://a/xy", false);
        goesWith("a=1; Path=/x", "http://a", "http://a/X", false);
        goesWith("a=1; Path=/x", "http://a", "http://a/", false);
        goesWith("a=1; Path=/x/", "http://a", "http://a/x", false);
        goesWith("a=1; Path=/x/", "http://a", "http://a/x/y", true);
        goesWith("a=1; Path=/", "http://a", "http://a", true);
        goesWith("a=1; Path=/", "http://a", "http://a/x?y", true);
        goesWith("a=1; Path=/x", "http://a", "http://a/x?/y", true);
    }

    private static void secureAndScript() {
        goesWith("a=1", "https://a", "http://a", true);
        goesWith("a=1", "http://a", "https://a", true);
        goesWith("a=1; Secure", "https://a", "https://a", true);
        goesWith("a=1; Secure", "https://a", "http://a", false);
        CookieJar jar = Calls.jarAt("http://a.b");
        Calls.receive(jar, "a=1; HttpOnly");
        goes(jar, "http-only, no script", true, false, true);
        goes(jar, "http-only, script", true, true, false);
        Calls.receive(jar, "a=1");
        goes(jar, "not http-only, script", true, true, true);
    }

    private static void sites(String rule, boolean crossSite, boolean navigation, boolean want) {
        CookieJar jar = Calls.jarAt("https://x.a.b");
        Calls.receive(jar, "a=1; Secure; SameSite=" + rule);
        goes(jar, rule + " without a page", navigation, false, true);
        Calls.page(jar, crossSite ? "https://c.b" : "https://y.a.b");
        goes(jar, rule + (crossSite ? " cross-site" : " same-site"), navigation, false, want);
    }

    private static void sites() {
        sites("None", false, false, true);
        sites("None", true, false, true);
        sites("None", true, true, true);
        sites("Lax", false, false, true);
        sites("Lax", true, false, false);
        sites("Lax", true, true, true);
        sites("Strict", false, false, true);
        sites("Strict", true, false, false);
        sites("Strict", true, true, false);
        CookieJar jar = Calls.jarAt("http://a.b");
        Calls.receive(jar, "a=1");
        Calls.page(jar, "https://a.b");
        goes(jar, "https page, http request", false, false, false);
    }

    private static void orderAndHeader() {
        CookieJar jar = Calls.jarAt("https://a.b/x/y/z");
        Calls.receive(jar, "z=1; Path=/");
        Calls.receive(jar, "y=22; Path=/x/y");
        Calls.receive(jar, "b=; Path=/x");
        Calls.receive(jar, "a=4 4; Path=/x");
        Calls.receive(jar, "n=5; Path=/no");
        Calls.due("11 four go", 4, () -> jar.send(false, false));
        Calls.due("12 longest path first, then serial", "y=22; b=; a=4 4; z=1", Calls.header(jar));
        Calls.due("12 a character", 61, () -> jar.headerChar(1));
        Calls.due("12 behind", -1, () -> jar.headerChar(20));
        Calls.receive(jar, "b=6; Path=/x");
        Calls.due("12 stays until the next", "y=22; b=; a=4 4; z=1", Calls.header(jar));
        Calls.due("11 four go", 4, () -> jar.send(false, false));
        Calls.due("12 a replaced one keeps its place", "y=22; b=6; a=4 4; z=1", Calls.header(jar));
        Calls.request(jar, "https://a.b/");
        Calls.due("11 one goes", 1, () -> jar.send(false, false));
        Calls.due("12 a shorter header", "z=1", Calls.header(jar));
        Calls.request(jar, "https://c.d/");
        Calls.due("11 none goes", 0, () -> jar.send(false, false));
        Calls.due("12 an empty header", "", Calls.header(jar));
    }

    private static void accessTimes() {
        CookieJar jar = Calls.jarAt("https://a.b/x");
        Calls.receive(jar, "a=1; Path=/");
        Calls.receive(jar, "b=1; Path=/y");
        jar.advance(30);
        jar.send(false, false);
        Calls.due("11 access of the sent one", 30, () -> jar.accessed(0));
        Calls.due("11 access of the other one", 0, () -> jar.accessed(1));
        Calls.due("11 creation stays", 0, () -> jar.created(0));
    }

    private static void wouldSendChangesNothing() {
        CookieJar jar = Calls.jarAt("https://a.b/x");
        Calls.receive(jar, "a=1");
        jar.send(false, false);
        jar.advance(30);
        long before = jar.fingerprint();
        Calls.due("13 it would go", true, jar.wouldSend(0, false, false));
        Calls.due("13 nothing changed", before, jar::fingerprint);
        Calls.due("13 nor the header", "a=1", Calls.header(jar));
    }

    /** Forty cookies with the longest names and values that there are. */
    private static void longestHeader() {
        CookieJar jar = Calls.jarAt("https://a.b/");
        jar.setLimit(0, 40);
        jar.setLimit(1, 40);
        StringBuilder want = new StringBuilder();
        for (int n = 10; n < 50; n++) {
            String cookie = "fourteen-signs" + n + "=thirty-letters-and-two-digits-" + n;
            Calls.receive(jar, cookie);
            want.append(n > 10 ? "; " : "").append(cookie);
        }
        Calls.due("11 forty go", 40, () -> jar.send(false, false));
        Calls.due("12 the longest header", want.toString(), Calls.header(jar));
    }
}
