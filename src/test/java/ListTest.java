/** Promises 14 to 31: the cookies in the jar, their order, and their removal. */
public final class ListTest {
    public static void main(String[] args) {
        readers();
        badIndices();
        orderOfDomains();
        orderOfPathsNamesAndHosts();
        orderStaysWithReplacement();
        firstFrom();
        remove();
        clearSite();
        endSession();
        Calls.end();
    }

    private static void readers() {
        CookieJar jar = Calls.jarAt("https://x.a.b/p/q");
        Calls.receive(jar, "first=1; Domain=a.b");
        jar.advance(7);
        Calls.receive(jar, "second=two; Secure; HttpOnly; SameSite=Strict; Priority=High; Path=/r; Max-Age=50");
        jar.advance(2);
        jar.send(false, false);
        Calls.due("14 two", 2, jar::cookies);
        Calls.due("15 name", "first", Calls.name(jar, 0));
        Calls.due("15 name", "second", Calls.name(jar, 1));
        Calls.due("16 value", "1", Calls.value(jar, 0));
        Calls.due("16 value", "two", Calls.value(jar, 1));
        Calls.due("17 domain", "a.b", Calls.domain(jar, 0));
        Calls.due("17 domain", "x.a.b", Calls.domain(jar, 1));
        Calls.due("18 path", "/p", Calls.path(jar, 0));
        Calls.due("18 path", "/r", Calls.path(jar, 1));
        Calls.due("19 expiry", -1, () -> jar.expiry(0));
        Calls.due("19 expiry", 57, () -> jar.expiry(1));
        Calls.due("20 created", 0, () -> jar.created(0));
        Calls.due("20 created", 7, () -> jar.created(1));
        Calls.due("21 accessed", 9, () -> jar.accessed(0));
        Calls.due("21 accessed", 7, () -> jar.accessed(1));
        Calls.due("22 serial", 0, () -> jar.serial(0));
        Calls.due("22 serial", 1, () -> jar.serial(1));
        Calls.due("23 host-only", false, jar.isHostOnly(0));
        Calls.due("23 host-only", true, jar.isHostOnly(1));
        Calls.due("24 secure", false, jar.isSecure(0));
        Calls.due("24 secure", true, jar.isSecure(1));
        Calls.due("25 http-only", false, jar.isHttpOnly(0));
        Calls.due("25 http-only", true, jar.isHttpOnly(1));
        Calls.due("26 same-site", 1, () -> jar.sameSite(0));
        Calls.due("26 same-site", 2, () -> jar.sameSite(1));
        Calls.due("27 priority", 1, () -> jar.priority(0));
        Calls.due("27 priority", 2, () -> jar.priority(1));
        Calls.receive(jar, "second=; Secure; SameSite=None; Priority=Low; Path=/r");
        Calls.due("16 empty value", "", Calls.value(jar, 1));
        Calls.due("19 a session cookie now", -1, () -> jar.expiry(1));
        Calls.due("26 none", 0, () -> jar.sameSite(1));
        Calls.due("27 low", 0, () -> jar.priority(1));
    }

    private static void badIndices() {
        CookieJar jar = Calls.jarAt("https://x.a.b/p/q");
        Calls.receive(jar, "a=1");
        for (int i : new int[] {-1, 1, 41, Integer.MAX_VALUE, Integer.MIN_VALUE}) {
            Calls.due("15 index " + i, Calls.BAD_INDEX, () -> jar.nameChar(i, 0));
            Calls.due("16 index " + i, Calls.BAD_INDEX, () -> jar.valueChar(i, 0));
            Calls.due("17 index " + i, Calls.BAD_INDEX, () -> jar.domainChar(i, 0));
            Calls.due("18 index " + i, Calls.BAD_INDEX, () -> jar.pathChar(i, 0));
            Calls.due("19 index " + i, Calls.BAD_INDEX, () -> jar.expiry(i));
            Calls.due("20 index " + i, Calls.BAD_INDEX, () -> jar.created(i));
            Calls.due("21 index " + i, Calls.BAD_INDEX, () -> jar.accessed(i));
            Calls.due("22 index " + i, Calls.BAD_INDEX, () -> jar.serial(i));
            Calls.due("23 index " + i, Calls.BAD_INDEX, () -> jar.isHostOnly(i) ? 1 : 0);
            Calls.due("24 index " + i, Calls.BAD_INDEX, () -> jar.isSecure(i) ? 1 : 0);
            Calls.due("25 index " + i, Calls.BAD_INDEX, () -> jar.isHttpOnly(i) ? 1 : 0);
            Calls.due("26 index " + i, Calls.BAD_INDEX, () -> jar.sameSite(i));
            Calls.due("27 index " + i, Calls.BAD_INDEX, () -> jar.priority(i));
            Calls.due("29 index " + i, Calls.BAD_INDEX, () -> jar.remove(i));
        }
        for (int k : new int[] {-1, Integer.MIN_VALUE}) {
            Calls.due("15 character " + k, Calls.BAD_INDEX, () -> jar.nameChar(0, k));
            Calls.due("16 character " + k, Calls.BAD_INDEX, () -> jar.valueChar(0, k));
            Calls.due("17 character " + k, Calls.BAD_INDEX, () -> jar.domainChar(0, k));
            Calls.due("18 character " + k, Calls.BAD_INDEX, () -> jar.pathChar(0, k));
        }
        Calls.due("15 far", -1, () -> jar.nameChar(0, Integer.MAX_VALUE));
        Calls.due("16 far", -1, () -> jar.valueChar(0, Integer.MAX_VALUE));
        Calls.due("17 far", -1, () -> jar.domainChar(0, Integer.MAX_VALUE));
        Calls.due("18 far", -1, () -> jar.pathChar(0, Integer.MAX_VALUE));
        Calls.due("29 nothing changed", 1, jar::cookies);
    }

    private static void orderOfDomains() {
        // "-" comes before "." by its code, but labels are compared as wholes
        String[] hosts = {"a", "a.a", "b.a", "a.b.a", "a-.a", "a.a-.a", "aa.a", "z", "a.z", "a.0", "cd.x.z", "c.x.z",
            "c.d.x.z", "c.d.xy.z"};
        String[] ordered = {"a.0", "a", "a.a", "a-.a", "a.a-.a", "aa.a", "b.a", "a.b.a", "z", "a.z", "c.x.z", "cd.x.z",
            "c.d.x.z", "c.d.xy.z"};
        CookieJar jar = new CookieJar();
        for (String host : hosts) {
            Calls.request(jar, "https://" + host);
            Calls.due("9 for " + host, 1, () -> Calls.receive(jar, "a=1"));
        }
        for (int i = 0; i < ordered.length; i++) {
            Calls.due("17 domain " + i, ordered[i], Calls.domain(jar, i));
        }
    }

    private static void orderOfPathsNamesAndHosts() {
        CookieJar jar = Calls.jarAt("https://a.b/");
        jar.setLimit(0, 40);
        String[] cookies = {"b=; Path=/x", "a=; Path=/y", "a=; Path=/x; Domain=a.b", "a=; Path=/x", "B=; Path=/x",
            "a=; Path=/", "ab=; Path=/x", "a=; Path=/x/", "a=; Path=/x-"};
        for (String cookie : cookies) {
            Calls.due("9 " + cookie, 1, () -> Calls.receive(jar, cookie));
        }
        String[] want = {"/ a true", "/x B true", "/x a false", "/x a true", "/x ab true", "/x b true", "/x- a true",
            "/x/ a true", "/y a true"};
        for (int i = 0; i < want.length; i++) {
            Calls.due("14 cookie " + i, want[i], Calls.path(jar, i) + " " + Calls.name(jar, i) + " " + jar.isHostOnly(i));
        }
    }

    private static void orderStaysWithReplacement() {
        CookieJar jar = Calls.jarAt("https://a.b/");
        Calls.receive(jar, "b=1");
        Calls.receive(jar, "a=1");
        Calls.receive(jar, "c=1");
        Calls.receive(jar, "b=2");
        Calls.due("14 order", "a b c", Calls.names(jar));
        Calls.due("16 replaced", "2", Calls.value(jar, 1));
        Calls.due("16 not replaced", "1", Calls.value(jar, 0));
    }

    private static void firstFrom(CookieJar jar, String text, long want) {
        jar.clearText();
        Calls.type(jar, text);
        Calls.due("28 from \"" + text + "\"", want, jar::firstFrom);
        Calls.due("28 the text stays", text.length(), jar::clearText);
    }

    private static void firstFrom() {
        CookieJar jar = new CookieJar();
        firstFrom(jar, "a", -1);
        for (String host : new String[] {"b.c", "x.b.c", "b.d"}) {
            Calls.request(jar, "https://" + host);
            Calls.receive(jar, "a=1");
            Calls.receive(jar, "b=1");
        }
        firstFrom(jar, "a", 0);
        firstFrom(jar, "z.b", 0);
        firstFrom(jar, "c", 0);
        firstFrom(jar, "b.c", 0);
        firstFrom(jar, "a.b.c", 2);
        firstFrom(jar, "x.b.c", 2);
        firstFrom(jar, "y.x.b.c", 4);
        firstFrom(jar, "ba.c", 4);
        firstFrom(jar, "d", 4);
        firstFrom(jar, "b.d", 4);
        firstFrom(jar, "a.b.d", -1);
        firstFrom(jar, "e", -1);
        jar.remove(5);
        jar.remove(4);
        firstFrom(jar, "b.d", -1);
        for (String text : new String[] {"", ".", "a.", "A", "a..b", "a b", "abcdefghijabcdefghijabcdefghijk"}) {
            firstFrom(jar, text, Calls.BAD_ARGUMENT);
        }
    }

    private static void remove() {
        CookieJar jar = Calls.jarAt("https://a.b/");
        for (String cookie : new String[] {"a=1", "b=1", "c=1"}) {
            Calls.receive(jar, cookie);
        }
        Calls.due("29 the middle one", 2, () -> jar.remove(1));
        Calls.due("29 the others stay", "a c", Calls.names(jar));
        Calls.due("29 the last one", 1, () -> jar.remove(1));
        Calls.due("29 no such one", Calls.BAD_INDEX, () -> jar.remove(1));
        Calls.due("29 the first one", 0, () -> jar.remove(0));
        Calls.due("29 an empty jar", Calls.BAD_INDEX, () -> jar.remove(0));
        for (int event = 1; event < 7; event++) {
            int e = event;
            Calls.due("29 is no event", 0, () -> jar.count(e));
        }
        Calls.due("29 a new one", 1, () -> Calls.receive(jar, "b=1"));
        Calls.due("29 with a new serial", 3, () -> jar.serial(0));
    }

    private static void clearSite() {
        CookieJar jar = new CookieJar();
        Calls.due("30 no request", Calls.BAD_STATE, jar::clearSite);
        for (String host : new String[] {"a.b", "x.a.b", "b", "c.b", "a.d"}) {
            Calls.request(jar, "https://" + host);
            Calls.receive(jar, "a=1");
        }
        Calls.request(jar, "https://y.a.b/some/path");
        Calls.due("30 two of the site", 2, jar::clearSite);
        Calls.due("30 three are left", 3, jar::cookies);
        Calls.due("30 b", "b", Calls.domain(jar, 0));
        Calls.due("30 c.b", "c.b", Calls.domain(jar, 1));
        Calls.due("30 a.d", "a.d", Calls.domain(jar, 2));
        Calls.due("30 none more", 0, jar::clearSite);
        Calls.suffix(jar, "c.b");
        Calls.request(jar, "https://z.c.b");
        Calls.due("30 by the suffixes of now", 0, jar::clearSite);
        Calls.request(jar, "https://b");
        Calls.due("30 a public domain", 1, jar::clearSite);
        Calls.due("30 left", "c.b", Calls.domain(jar, 0));
        Calls.request(jar, "https://a.d");
        Calls.due("30 the last in the list", 1, jar::clearSite);
    }

    private static void endSession() {
        CookieJar jar = Calls.jarAt("https://a.b/");
        Calls.due("31 none", 0, jar::endSession);
        Calls.receive(jar, "a=1");
        Calls.receive(jar, "b=1; Max-Age=9");
        Calls.receive(jar, "c=1; Expires=01 Jan 1970 00:00:05");
        Calls.receive(jar, "d=1");
        Calls.due("31 two", 2, jar::endSession);
        Calls.due("31 the others stay", "b c", Calls.names(jar));
        Calls.due("31 none more", 0, jar::endSession);
        Calls.due("31 is no event", 0, () -> jar.count(3));
    }
}
