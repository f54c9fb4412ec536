/** Edges of "Sending" (promises 11 to 13), sentence by sentence. */
public final class SendEdgesTest {
    private static final String FORTY = "/abcdefghijabcdefghijabcdefghijabcdefghi";

    public static void main(String[] args) {
        hosts();
        paths();
        secure();
        httpOnly();
        sameSites();
        allMustHold();
        orderByLengths();
        header();
        latestHeader();
        headerChars();
        accessTimes();
        fullJar();
        noneThatIsGone();
        wouldSend();
        Calls.end();
    }

    /** Both methods answer alike for the only cookie of a jar. */
    private static void goes(CookieJar jar, String why, boolean navigation, boolean script, boolean want) {
        Calls.due("13 " + why, want, jar.wouldSend(0, navigation, script));
        Calls.due("11 " + why, want ? 1 : 0, () -> jar.send(navigation, script));
        Calls.due("12 " + why, want ? "a=1" : "", Calls.header(jar));
    }

    private static void goes(String from, String attributes, String to, boolean want) {
        CookieJar jar = Calls.jarAt(from);
        Calls.due("9 " + attributes, 1, () -> Calls.receive(jar, "a=1" + attributes));
        Calls.request(jar, to);
        for (int way = 0; way < 4; way++) {
            goes(jar, attributes + " from " + from + " to " + to, way > 1, way % 2 == 1, want);
        }
    }

    private static void hosts() {
        Calls.sentence("the host of the request equals its domain if it is host-only, or matches its domain if not");
        goes("http://x.a.b", "", "http://x.a.b", true);
        goes("http://x.a.b", "", "http://y.x.a.b", false);
        goes("http://x.a.b", "", "http://a.b", false);
        goes("http://x.a.b", "", "http://xx.a.b", false);
        goes("http://b", "", "http://b", true);
        goes("http://b", "", "http://a.b", false);
        goes("http://b", ";Domain=b", "http://a.b", false);
        goes("http://x.a.b", ";Domain=x.a.b", "http://x.a.b", true);
        goes("http://x.a.b", ";Domain=x.a.b", "http://y.x.a.b", true);
        goes("http://x.a.b", ";Domain=x.a.b", "http://yx.a.b", false);
        goes("http://x.a.b", ";Domain=x.a.b", "http://a.b", false);
        goes("http://x.a.b", ";Domain=a.b", "http://a.b", true);
        goes("http://x.a.b", ";Domain=a.b", "http://y.a.b", true);
        goes("http://x.a.b", ";Domain=a.b", "http://ya.b", false);
        goes("http://x.a.b", ";Domain=a.b", "http://b", false);
    }

    private static void paths() {
        Calls.sentence("A path p path-matches a path q if both are equal, or p begins with q and q ends with \"/\" or the "
                + "character of p after q is \"/\".");
        goes("http://a.b", ";Path=/", "http://a.b", true);
        goes("http://a.b", ";Path=/", "http://a.b/", true);
        goes("http://a.b", ";Path=/", "http://a.b/q", true);
        goes("http://a.b", ";Path=/", "http://a.b//", true);
        goes("http://a.b", ";Path=/q", "http://a.b/q", true);
        goes("http://a.b", ";Path=/q", "http://a.b/q/", true);
        goes("http://a.b", ";Path=/q", "http://a.b/q/r", true);
        goes("http://a.b", ";Path=/q", "http://a.b/q?r", true);
        goes("http://a.b", ";Path=/q", "http://a.b/qr", false);
        goes("http://a.b", ";Path=/q", "http://a.b/q-", false);
        goes("http://a.b", ";Path=/q", "http://a.b/q0", false);
        goes("http://a.b", ";Path=/q", "http://a.b/", false);
        goes("http://a.b", ";Path=/q", "http://a.b/r", false);
        goes("http://a.b", ";Path=/q", "http://a.b/Q", false);
        goes("http://a.b", ";Path=/q", "http://a.b/r/q", false);
        goes("http://a.b", ";Path=/q/", "http://a.b/q/", true);
        goes("http://a.b", ";Path=/q/", "http://a.b/q/r", true);
        goes("http://a.b", ";Path=/q/", "http://a.b/q//", true);
        goes("http://a.b", ";Path=/q/", "http://a.b/q", false);
        goes("http://a.b", ";Path=/q/r", "http://a.b/q", false);
        goes("http://a.b", ";Path=//", "http://a.b/", false);
        goes("http://a.b", ";Path=" + FORTY, "http://a.b" + FORTY, true);
        goes("http://a.b", ";Path=" + FORTY, "http://a.b" + FORTY.substring(0, 39), false);
        goes("http://a.b", ";Path=" + FORTY.substring(0, 39), "http://a.b" + FORTY, false);
        goes("http://a.b", ";Path=" + FORTY.substring(0, 39), "http://a.b" + FORTY.substring(0, 39) + "/", true);
    }

    private static void secure() {
        Calls.sentence("it is not secure, or the request is \"https\"");
        goes("https://a.b", ";Secure", "https://a.b", true);
        goes("https://a.b", ";Secure", "http://a.b", false);
        goes("https://a.b", "", "http://a.b", true);
        goes("http://a.b", "", "https://a.b", true);
    }

    private static void httpOnly() {
        Calls.sentence("it is not http-only, or it is not read by a script");
        CookieJar jar = Calls.jarAt("http://a.b");
        Calls.receive(jar, "a=1;HttpOnly");
        goes(jar, "not by a script", false, false, true);
        goes(jar, "not by a script, navigation", true, false, true);
        goes(jar, "by a script", false, true, false);
        goes(jar, "by a script, navigation", true, true, false);
    }

    private static void sameSite(String rule, String page, boolean navigation, boolean want) {
        CookieJar jar = Calls.jarAt("https://x.a.b");
        Calls.due("9 " + rule, 1, () -> Calls.receive(jar, "a=1;Secure;SameSite=" + rule));
        if (!page.isEmpty()) {
            Calls.page(jar, page);
        }
        goes(jar, rule + " from \"" + page + "\"", navigation, false, want);
        goes(jar, rule + " from \"" + page + "\" by a script", navigation, true, want);
    }

    private static void sameSites() {
        Calls.sentence("its same-site is none, or the request is same-site, or its same-site is lax and the request is a "
                + "navigation");
        for (boolean navigation : new boolean[] {false, true}) {
            for (String page : new String[] {"", "https://a.b", "https://y.a.b/p"}) {
                sameSite("None", page, navigation, true);
                sameSite("Lax", page, navigation, true);
                sameSite("Strict", page, navigation, true);
            }
            for (String page : new String[] {"http://x.a.b", "https://c.b", "https://b", "https://xa.b"}) {
                sameSite("None", page, navigation, true);
                sameSite("Lax", page, navigation, navigation);
                sameSite("Strict", page, navigation, false);
            }
        }
    }

    private static void allMustHold() {
        Calls.sentence("A cookie goes with the request if all of this holds");
        CookieJar jar = Calls.jarAt("https://a.b/q");
        Calls.receive(jar, "a=1;Secure;HttpOnly;SameSite=Strict;Path=/q");
        Calls.page(jar, "https://x.a.b");
        goes(jar, "all of it", false, false, true);
        goes(jar, "but a script", false, true, false);
        Calls.request(jar, "https://a.b/r");
        goes(jar, "but the path", false, false, false);
        Calls.request(jar, "https://x.a.b/q");
        goes(jar, "but the host", false, false, false);
        Calls.request(jar, "http://a.b/q");
        Calls.page(jar, "http://a.b");
        goes(jar, "but the scheme", false, false, false);
        Calls.request(jar, "https://a.b/q");
        goes(jar, "but the page", true, false, false);
    }

    private static void orderByLengths() {
        Calls.sentence("Cookies are sent in the order of descending lengths of their paths, those with equal lengths by "
                + "serial numbers.");
        CookieJar jar = Calls.jarAt("https://x.a.b/q/r");
        jar.setLimit(0, 40);
        for (String cookie : new String[] {"z=;Path=/", "y=;Path=/q", "x=;Path=/q/r", "w=;Path=/", "b=;Path=/q;Domain=a.b",
            "a=;Path=/q", "c=;Path=/q/"}) {
            Calls.due("9 " + cookie, 1, () -> Calls.receive(jar, cookie));
        }
        Calls.due("11 all seven", 7, () -> jar.send(false, false));
        Calls.due("12 in order", "x=; c=; y=; b=; a=; z=; w=", Calls.header(jar));
        Calls.receive(jar, "y=1;Path=/q");
        jar.send(false, false);
        Calls.due("12 replaced, with its serial number", "x=; c=; y=1; b=; a=; z=; w=", Calls.header(jar));
        Calls.receive(jar, "y=1;Path=/q;Max-Age=0");
        Calls.receive(jar, "y=2;Path=/q");
        jar.send(false, false);
        Calls.due("12 created again, with a new one", "x=; c=; b=; a=; y=2; z=; w=", Calls.header(jar));
    }

    private static void header() {
        Calls.sentence("The header consists of name, \"=\" and value of each cookie, with \"; \" between them.");
        CookieJar jar = Calls.jarAt("https://a.b");
        Calls.due("11 none", 0, () -> jar.send(false, false));
        Calls.due("12 of none", "", Calls.header(jar));
        Calls.receive(jar, "a=");
        Calls.due("11 one", 1, () -> jar.send(false, false));
        Calls.due("12 of one", "a=", Calls.header(jar));
        Calls.receive(jar, "b = c = d ");
        Calls.due("11 two", 2, () -> jar.send(false, false));
        Calls.due("12 of two", "a=; b=c = d", Calls.header(jar));
        Calls.receive(jar, "sixteen-letters-=thirty-two-letters-is-the-most--");
        Calls.due("11 three", 3, () -> jar.send(false, false));
        Calls.due("12 of three", "a=; b=c = d; sixteen-letters-=thirty-two-letters-is-the-most--", Calls.header(jar));
    }

    private static void latestHeader() {
        Calls.sentence("Returns a character of the latest header.");
        CookieJar jar = Calls.jarAt("https://a.b");
        Calls.receive(jar, "abc=def");
        jar.send(false, false);
        Calls.receive(jar, "abc=x");
        Calls.due("12 not of what was received then", "abc=def", Calls.header(jar));
        jar.remove(0);
        jar.advance(5);
        Calls.request(jar, "https://c.d");
        Calls.due("12 nor of what was removed then", "abc=def", Calls.header(jar));
        Calls.due("11 a header of none", 0, () -> jar.send(false, false));
        Calls.due("12 is the latest", "", Calls.header(jar));
        Calls.receive(jar, "s=1");
        jar.send(false, false);
        Calls.due("12 a shorter one", "s=1", Calls.header(jar));
        Calls.due("12 behind it", -1, () -> jar.headerChar(3));
    }

    private static void headerChars() {
        Calls.sentence("-1 if there are not so many characters, or no header was written");
        CookieJar jar = new CookieJar();
        for (int k : new int[] {0, 1, 1000, 2147483647}) {
            Calls.due("12 no header, " + k, -1, () -> jar.headerChar(k));
        }
        Calls.request(jar, "https://a.b");
        Calls.receive(jar, "a=1");
        Calls.due("12 still none", -1, () -> jar.headerChar(0));
        jar.send(false, false);
        Calls.due("12 the first", 'a', () -> jar.headerChar(0));
        Calls.due("12 the last", '1', () -> jar.headerChar(2));
        for (int k : new int[] {3, 4, 2090, 2091, 5000, 2147483647}) {
            Calls.due("12 behind, " + k, -1, () -> jar.headerChar(k));
        }
    }

    private static void accessTimes() {
        Calls.sentence("The time of the latest access of each cookie that is sent becomes the present time.");
        CookieJar jar = Calls.jarAt("https://a.b/q");
        Calls.receive(jar, "a=1;Path=/");
        Calls.receive(jar, "b=1;Path=/r");
        Calls.receive(jar, "c=1;Path=/q");
        Calls.due("11 at once", 2, () -> jar.send(false, false));
        Calls.due("21 at once", 0, () -> jar.accessed(0));
        jar.advance(8);
        Calls.due("21 no time of its own accord", 0, () -> jar.accessed(0));
        Calls.due("11 later", 2, () -> jar.send(false, false));
        long[] want = {8, 8, 0};
        for (int i = 0; i < 3; i++) {
            int at = i;
            Calls.due("21 cookie " + i, want[i], () -> jar.accessed(at));
            Calls.due("20 cookie " + i, 0, () -> jar.created(at));
        }
        Calls.advanceTo(jar, 3000000000L);
        jar.send(true, true);
        Calls.due("21 beyond an int", 3000000000L, () -> jar.accessed(0));
    }

    /** Forty cookies, the most that there are, within 512 calls. */
    private static void fullJar() {
        Calls.sentence("Returns the number of cookies that are sent.");
        CookieJar jar = Calls.jarAt("http://a.b");
        jar.setLimit(0, 40);
        jar.setLimit(1, 40);
        StringBuilder want = new StringBuilder();
        for (char name = 'A'; name < 'A' + 40; name++) {
            Calls.receive(jar, name + "=");
            want.append(name == 'A' ? "" : "; ").append(name).append('=');
        }
        Calls.due("11 forty", 40, () -> jar.send(false, false));
        Calls.due("12 all of them", want.toString(), Calls.header(jar));
        Calls.due("13 the last one", true, jar.wouldSend(39, false, false));
        Calls.due("13 none behind it", Calls.BAD_INDEX, () -> jar.wouldSend(40, false, false) ? 1 : 0);
    }

    private static void noneThatIsGone() {
        Calls.sentence("Returns the number of cookies that are sent.");
        CookieJar jar = Calls.jarAt("http://a.b");
        Calls.receive(jar, "a=1");
        Calls.receive(jar, "b=1;Max-Age=5");
        jar.remove(0);
        Calls.due("11 not the removed one", 1, () -> jar.send(false, false));
        Calls.due("12 not the removed one", "b=1", Calls.header(jar));
        jar.advance(5);
        Calls.due("11 nor one that ran out", 0, () -> jar.send(false, false));
        Calls.receive(jar, "c=1");
        Calls.receive(jar, "c=1;Max-Age=0");
        Calls.due("11 nor one that was removed by an expired one", 0, () -> jar.send(false, false));
        Calls.receive(jar, "d=1");
        jar.setLimit(0, 1);
        Calls.receive(jar, "e=1");
        Calls.due("11 nor an evicted one", 1, () -> jar.send(false, false));
        Calls.due("12 nor an evicted one", "e=1", Calls.header(jar));
    }

    private static void wouldSend() {
        Calls.sentence("Nothing is changed.");
        CookieJar jar = Calls.jarAt("https://a.b");
        Calls.receive(jar, "a=1");
        jar.send(false, false);
        Calls.receive(jar, "b=1");
        jar.advance(7);
        Calls.due("13 goes", true, jar.wouldSend(0, false, false));
        Calls.due("13 goes", true, jar.wouldSend(1, true, true));
        Calls.due("21 no access", 0, () -> jar.accessed(0));
        Calls.due("21 no access", 0, () -> jar.accessed(1));
        Calls.due("12 no header", "a=1", Calls.header(jar));
        Calls.sentence("i: the index of the cookie");
        Calls.request(jar, "http://a.b");
        Calls.receive(jar, "c=1;Path=/q");
        Calls.due("13 the first", true, jar.wouldSend(0, false, false));
        Calls.due("13 the last", false, jar.wouldSend(2, false, false));
    }
}
