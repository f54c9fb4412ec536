/** Edges of the list, of time, of limits and of victims (promises 14 to 38), sentence by sentence. */
public final class JarEdgesTest {
    private static final String FORTY = "/abcdefghijabcdefghijabcdefghijabcdefghi";

    public static void main(String[] args) {
        serialNumbers();
        orderOfLabels();
        orderOfPaths();
        orderOfNames();
        hostOnlyAfterOthers();
        keysInTurn();
        characters();
        sessionExpiry();
        firstFrom();
        remove();
        clearSite();
        endSession();
        advance();
        time();
        nextExpiry();
        limitsAtFirst();
        limitOfSite();
        limitOfAll();
        asLongAsThereAreMore();
        siteBeforeAll();
        neverTheNewOne();
        smallestAndLargestLimits();
        limitsStay();
        victimByPriority();
        victimBySecure();
        victimByPolicy();
        victimBySerial();
        victimOfNone();
        setPolicy();
        Calls.end();
    }

    private static void created(CookieJar jar, String cookie) {
        Calls.due("9 \"" + cookie + "\"", 1, () -> Calls.receive(jar, cookie));
    }

    /** A jar for "https://a.b" with room for forty cookies, and these in it. */
    private static CookieJar jarWith(String... cookies) {
        CookieJar jar = Calls.jarAt("https://a.b");
        jar.setLimit(0, 40);
        jar.setLimit(1, 40);
        for (String cookie : cookies) {
            created(jar, cookie);
        }
        return jar;
    }

    private static void serialNumbers() {
        Calls.sentence("a serial number (0, 1, 2, ... in the order in which cookies are created)");
        CookieJar jar = jarWith("c=1", "b=1", "a=1");
        for (int i = 0; i < 3; i++) {
            int at = i;
            Calls.due("22 serial(" + i + ")", 2 - i, () -> jar.serial(at));
        }
        jar.remove(0);
        Calls.receive(jar, "");
        Calls.receive(jar, "x=1;Max-Age=0");
        Calls.receive(jar, "b=2");
        created(jar, "d=1");
        Calls.due("22 not used again", 3, () -> jar.serial(2));
        jar.endSession();
        created(jar, "e=1");
        Calls.due("22 nor in an empty jar", 4, () -> jar.serial(0));
    }

    /** Whether cookies of two hosts are listed in this order, in whatever order they came. */
    private static void before(String first, String second) {
        for (int turn = 0; turn < 2; turn++) {
            CookieJar jar = new CookieJar();
            Calls.request(jar, "http://" + (turn == 0 ? first : second));
            created(jar, "a=1");
            Calls.request(jar, "http://" + (turn == 0 ? second : first));
            created(jar, "a=1");
            Calls.due("17 the first", first, Calls.domain(jar, 0));
            Calls.due("17 the second", second, Calls.domain(jar, 1));
        }
    }

    private static void orderOfLabels() {
        Calls.sentence("by the labels of their domains, compared from the last label to the first one (a domain that ends "
                + "earlier comes first)");
        before("a", "b");
        before("z.a", "a.b");
        before("b.a.a", "a.b.a");
        before("a", "a.a");
        before("z", "a.z");
        before("b.z", "a.b.z");
        before("z.a", "aa");
        before("a", "aa");
        before("a", "a-");
        before("z.a", "a-");
        before("a.a-", "aa");
        before("a.b.c", "a.bb.c");
        before("z.b.c", "a.bb.c");
        before("z.b.c", "a.b-.c");
        before("-", "0");
        before("9", "a");
        before("10", "9");
        before("abcdefghijabcdefghijabcdefg.ab", "abcdefghijabcdefghijabcdefh.ab");
        before("a.a.a.a.a.a.a.a.a.a.a.a.a.a", "a.a.a.a.a.a.a.a.a.a.a.a.a.a.a");
        before("a.b.b.b.b.b.b.b.b.b.b.b.b.b.b", "b.b.b.b.b.b.b.b.b.b.b.b.b.b.b");
    }

    /** The same of cookies of one host. */
    private static void cookiesBefore(String first, String second) {
        for (int turn = 0; turn < 2; turn++) {
            CookieJar jar = jarWith((turn == 0 ? first : second), (turn == 0 ? second : first));
            Calls.due("22 \"" + first + "\" before \"" + second + "\"", turn, () -> jar.serial(0));
        }
    }

    private static void orderOfPaths() {
        Calls.sentence("then by path");
        cookiesBefore("a=;Path=/", "a=;Path=/a");
        cookiesBefore("a=;Path=/a", "a=;Path=/b");
        cookiesBefore("a=;Path=/aa", "a=;Path=/b");
        cookiesBefore("a=;Path=/A", "a=;Path=/a");
        Calls.sentence("Strings are compared lexicographically by the codes of their characters (a prefix comes first).");
        cookiesBefore("a=;Path=/a", "a=;Path=/a/");
        cookiesBefore("a=;Path=/a", "a=;Path=/a b");
        cookiesBefore("a=;Path=/a-", "a=;Path=/a/");
        cookiesBefore("a=;Path=/Z", "a=;Path=/a");
        cookiesBefore("a=;Path=" + FORTY.substring(0, 39), "a=;Path=" + FORTY);
        cookiesBefore("a=;Path=" + FORTY, "a=;Path=" + FORTY.substring(0, 39) + "j");
    }

    private static void orderOfNames() {
        Calls.sentence("then by name");
        cookiesBefore("a=2", "b=1");
        cookiesBefore("a=", "aa=");
        cookiesBefore("aa=", "b=");
        cookiesBefore("A=", "a=");
        cookiesBefore("Z=", "a=");
        cookiesBefore("a =", "a!=");
        cookiesBefore("10=", "9=");
        cookiesBefore("sixteen-letters=", "sixteen-letters-=");
        cookiesBefore("sixteen-letters,=", "sixteen-letters-=");
    }

    private static void hostOnlyAfterOthers() {
        Calls.sentence("then host-only ones after others");
        cookiesBefore("a=;Domain=a.b", "a=");
        cookiesBefore("a=", "b=;Domain=a.b");
        cookiesBefore("a=;Path=/", "a=;Path=/a;Domain=a.b");
        CookieJar jar = jarWith("a=", "a=;Domain=a.b");
        Calls.due("23 the first", false, jar.isHostOnly(0));
        Calls.due("23 the second", true, jar.isHostOnly(1));
    }

    private static void keysInTurn() {
        Calls.sentence("The cookies are listed in the following order and have indices from 0 by it");
        CookieJar jar = jarWith("b=;Path=/", "a=;Path=/q", "a=;Path=/");
        Calls.request(jar, "https://x.a.b");
        created(jar, "0=;Path=/");
        Calls.request(jar, "https://b");
        created(jar, "z=;Path=/z");
        StringBuilder seen = new StringBuilder();
        for (int i = 0; i < jar.cookies(); i++) {
            seen.append(Calls.domain(jar, i)).append(Calls.path(jar, i)).append(Calls.name(jar, i)).append(' ');
        }
        Calls.due("14 in order", "b/zz a.b/a a.b/b a.b/qa x.a.b/0 ", seen.toString());
    }

    private static void characters() {
        Calls.sentence("-1 if there are not so many characters");
        CookieJar jar = Calls.jarAt("http://abc.de");
        created(jar, "nam=valu;Path=/path");
        int[] behind = {3, 4, 6, 5};
        int[] last = {'m', 'u', 'e', 'h'};
        Calls.Letter[] rows = {k -> jar.nameChar(0, k), k -> jar.valueChar(0, k), k -> jar.domainChar(0, k),
            k -> jar.pathChar(0, k)};
        for (int row = 0; row < 4; row++) {
            Calls.Letter letter = rows[row];
            int end = behind[row];
            Calls.due((15 + row) + " last", last[row], () -> letter.at(end - 1));
            for (int k : new int[] {end, end + 1, 16, 17, 30, 32, 33, 40, 41, 160, Integer.MAX_VALUE}) {
                if (k >= end) {
                    Calls.due((15 + row) + " at " + k, -1, () -> letter.at(k));
                }
            }
        }
        CookieJar empty = jarWith("a=");
        Calls.due("16 of an empty value", -1, () -> empty.valueChar(0, 0));
        CookieJar shorter = jarWith("a=long;Max-Age=9");
        Calls.receive(shorter, "a=s");
        Calls.due("16 behind a shorter value", -1, () -> shorter.valueChar(0, 1));
    }

    private static void sessionExpiry() {
        Calls.sentence("-1 for a session cookie");
        CookieJar jar = jarWith("a=1", "b=1;Max-Age=1");
        Calls.due("19 of a session cookie", -1, () -> jar.expiry(0));
        Calls.due("19 of another one", 1, () -> jar.expiry(1));
    }

    private static CookieJar jarOfHosts(String... hosts) {
        CookieJar jar = new CookieJar();
        for (String host : hosts) {
            Calls.request(jar, "http://" + host);
            created(jar, "a=1");
        }
        return jar;
    }

    private static void firstFrom() {
        Calls.sentence("Finds the first cookie, in the order of cookies, whose domain does not come before the text, a "
                + "domain.");
        CookieJar jar = jarOfHosts("b", "c.b", "c.b.b", "d");
        String[] texts = {"a", "z.a", "b", "a.b", "b.b", "a.b.b", "c.b.b", "d.b.b", "c.b", "a.c.b", "cc.b", "d.b", "c", "d",
            "a.d", "dd", "z"};
        int[] want = {0, 0, 0, 1, 1, 1, 1, 2, 2, 3, 3, 3, 3, 3, -1, -1, -1};
        for (int k = 0; k < texts.length; k++) {
            String text = texts[k];
            Calls.due("28 " + text, want[k], () -> Calls.firstFrom(jar, text));
        }
        Calls.sentence("-1 if there is none");
        Calls.due("28 an empty jar", -1, () -> Calls.firstFrom(new CookieJar(), "a"));
        jar.remove(3);
        Calls.due("28 not one that is gone", -1, () -> Calls.firstFrom(jar, "c"));
        Calls.sentence("The text stays.");
        CookieJar again = jarOfHosts("b");
        Calls.due("28 once", 0, () -> Calls.firstFrom(again, "b"));
        Calls.due("28 twice", 0, again::firstFrom);
        Calls.due("28 then as a suffix", 1, again::addSuffix);
    }

    private static void remove() {
        Calls.sentence("Returns the number of cookies that are left.");
        CookieJar jar = jarWith("a=1", "b=1", "c=1", "d=1");
        Calls.due("29 the last", 3, () -> jar.remove(3));
        Calls.due("14 left", "a b c", Calls.names(jar));
        Calls.due("29 there is none now", Calls.BAD_INDEX, () -> jar.remove(3));
        Calls.due("29 the first", 2, () -> jar.remove(0));
        Calls.due("14 left", "b c", Calls.names(jar));
        Calls.due("29 the first", 1, () -> jar.remove(0));
        Calls.due("14 left", "c", Calls.names(jar));
        Calls.due("29 the only one", 0, () -> jar.remove(0));
        Calls.due("14 none", 0, jar::cookies);
        Calls.due("29 of none", Calls.BAD_INDEX, () -> jar.remove(0));
        for (int event = 1; event < 7; event++) {
            int e = event;
            Calls.due("38 is no event " + e, 0, () -> jar.count(e));
        }
        created(jar, "c=2");
        Calls.due("29 gone for good", "2", Calls.value(jar, 0));
    }

    private static void clearSite() {
        Calls.sentence("Removes all cookies whose domains have the same site as the host of the request.");
        CookieJar jar = jarOfHosts("a.b", "x.a.b", "y.x.a.b", "b", "c.b", "xa.b", "a.c");
        Calls.request(jar, "https://z.a.b/some?thing");
        Calls.due("30 three", 3, jar::clearSite);
        Calls.due("14 left", 4, jar::cookies);
        Calls.due("30 none more", 0, jar::clearSite);
        Calls.request(jar, "http://b");
        Calls.due("30 a public host", 1, jar::clearSite);
        Calls.request(jar, "http://c");
        Calls.due("30 none of a public host", 0, jar::clearSite);
        CookieJar suffix = jarOfHosts("a.b", "x.a.b", "y.x.a.b", "z.a.b");
        Calls.suffix(suffix, "a.b");
        Calls.request(suffix, "http://q.x.a.b");
        Calls.due("30 by a suffix", 2, suffix::clearSite);
        Calls.due("17 left", "a.b", Calls.domain(suffix, 0));
        Calls.due("17 left", "z.a.b", Calls.domain(suffix, 1));
        CookieJar all = jarWith("a=1", "b=1;Domain=a.b", "c=1;Max-Age=5;Path=/q");
        Calls.due("30 all", 3, all::clearSite);
        Calls.due("14 none", 0, all::cookies);
        Calls.due("30 of none", 0, all::clearSite);
        Calls.due("38 is no event", 0, () -> all.count(2) + all.count(3) + all.count(4));
    }

    private static void endSession() {
        Calls.sentence("Removes all session cookies.");
        Calls.due("31 of none", 0, () -> new CookieJar().endSession());
        CookieJar jar = jarWith("a=1", "b=1;Max-Age=5", "c=1", "d=1;Max-Age=34560000", "e=1");
        Calls.due("31 three", 3, jar::endSession);
        Calls.due("14 left", "b d", Calls.names(jar));
        Calls.due("31 none more", 0, jar::endSession);
        Calls.due("38 is no event", 0, () -> jar.count(2) + jar.count(3) + jar.count(4));
        CookieJar all = jarWith("a=1", "b=1");
        Calls.due("31 all", 2, all::endSession);
        Calls.due("14 none", 0, all::cookies);
    }

    private static void advance() {
        Calls.sentence("Then all cookies are removed whose expiry is not later than the present time.");
        CookieJar jar = jarWith("a=1;Max-Age=3", "b=1;Max-Age=4", "c=1", "d=1;Max-Age=5", "e=1;Max-Age=3");
        Calls.due("32 no time", 0, () -> jar.advance(0));
        Calls.due("32 a second before", 0, () -> jar.advance(2));
        Calls.due("14 all are there", 5, jar::cookies);
        Calls.due("32 at the expiry", 2, () -> jar.advance(1));
        Calls.due("14 left", "b c d", Calls.names(jar));
        Calls.due("32 no time again", 0, () -> jar.advance(0));
        Calls.due("32 behind the expiries", 2, () -> jar.advance(1000));
        Calls.due("14 left", "c", Calls.names(jar));
        Calls.due("38 counted", 4, () -> jar.count(3));
        Calls.due("32 a session cookie stays", 0, () -> jar.advance(Integer.MAX_VALUE));
        Calls.due("14 there", 1, jar::cookies);
        CookieJar longest = jarWith("a=1;Max-Age=999999999");
        Calls.due("32 a second before", 0, () -> longest.advance(34559999));
        Calls.due("32 at the latest expiry", 1, () -> longest.advance(1));
        CookieJar later = jarWith("a=1;Max-Age=5");
        later.advance(4);
        Calls.receive(later, "a=1;Max-Age=5");
        Calls.due("32 not by the old expiry", 0, () -> later.advance(4));
        Calls.due("32 by the new one", 1, () -> later.advance(1));
        CookieJar zero = jarWith("a=1;Max-Age=1");
        Calls.due("32 an expiry of 1 at time 0", 0, () -> zero.advance(0));
        Calls.due("32 of none", 0, () -> new CookieJar().advance(Integer.MAX_VALUE));
    }

    private static void time() {
        Calls.sentence("Returns the present time.");
        CookieJar jar = new CookieJar();
        long want = 0;
        for (int seconds : new int[] {0, 1, 0, 2147483646, 1, 2147483647, 2147483647, 2147483647}) {
            jar.advance(seconds);
            want += seconds;
            Calls.due("33 time()", want, jar::time);
        }
        for (int n = 0; n < 400; n++) {
            jar.advance(Integer.MAX_VALUE);
        }
        Calls.due("33 as far as it goes", want + 400L * Integer.MAX_VALUE, jar::time);
    }

    private static void nextExpiry() {
        Calls.sentence("Returns the earliest expiry of the cookies.");
        CookieJar jar = jarWith("b=1;Max-Age=20");
        Calls.due("34 the only one", 20, jar::nextExpiry);
        created(jar, "c=1;Max-Age=10");
        Calls.due("34 the last in the list", 10, jar::nextExpiry);
        created(jar, "a=1;Max-Age=5");
        Calls.due("34 the first in the list", 5, jar::nextExpiry);
        created(jar, "d=1");
        created(jar, "0=1");
        Calls.due("34 not of session cookies", 5, jar::nextExpiry);
        jar.advance(5);
        Calls.due("34 the next", 10, jar::nextExpiry);
        Calls.receive(jar, "c=1");
        Calls.due("34 when one became a session cookie", 20, jar::nextExpiry);
        Calls.sentence("-1 if there is none");
        Calls.receive(jar, "b=1;Max-Age=0");
        Calls.due("34 session cookies alone", -1, jar::nextExpiry);
        jar.endSession();
        Calls.due("34 no cookies", -1, jar::nextExpiry);
        Calls.advanceTo(jar, 3000000000L);
        created(jar, "a=1;Max-Age=5");
        Calls.due("34 beyond an int", 3000000005L, jar::nextExpiry);
    }

    private static void limitsAtFirst() {
        Calls.sentence("There are two limits, initially 5 cookies of a site (that is, whose domains have the same site) and "
                + "20 cookies altogether.");
        Calls.due("35 of a site", 5, () -> new CookieJar().setLimit(0, 5));
        Calls.due("35 altogether", 20, () -> new CookieJar().setLimit(1, 20));
        CookieJar jar = Calls.jarAt("http://a.b");
        for (char name = 'a'; name <= 'e'; name++) {
            created(jar, name + "=1");
        }
        Calls.due("14 five", 5, jar::cookies);
        created(jar, "f=1");
        Calls.due("14 the sixth", "b c d e f", Calls.names(jar));
        CookieJar all = new CookieJar();
        for (char host = 'a'; host <= 't'; host++) {
            Calls.request(all, "http://" + host);
            created(all, "a=1");
        }
        Calls.due("14 twenty", 20, all::cookies);
        Calls.due("38 none evicted", 0, () -> all.count(4));
        Calls.request(all, "http://u");
        created(all, "a=1");
        Calls.due("14 twenty still", 20, all::cookies);
        Calls.due("38 one evicted", 1, () -> all.count(4));
        Calls.due("17 the first one", "b", Calls.domain(all, 0));
    }

    private static void limitOfSite() {
        Calls.sentence("as long as there are more cookies with the site of its domain than the first limit, the victim "
                + "among these is evicted");
        CookieJar jar = new CookieJar();
        jar.setLimit(0, 2);
        String[] hosts = {"c.b", "b", "a.b", "x.a.b"};
        for (String host : hosts) {
            Calls.request(jar, "http://" + host);
            created(jar, "a=1");
        }
        Calls.due("14 at the limit", 4, jar::cookies);
        Calls.request(jar, "http://y.x.a.b");
        created(jar, "b=1;Domain=x.a.b");
        Calls.due("14 of the site, the first one went", 4, jar::cookies);
        Calls.due("17 not b", "b", Calls.domain(jar, 0));
        Calls.due("17 nor those of x.a.b", "x.a.b", Calls.domain(jar, 1));
        Calls.due("17 nor those of x.a.b", "x.a.b", Calls.domain(jar, 2));
        Calls.due("17 nor c.b", "c.b", Calls.domain(jar, 3));
        Calls.suffix(jar, "x.a.b");
        Calls.request(jar, "http://y.x.a.b");
        created(jar, "c=1");
        created(jar, "d=1");
        Calls.due("14 of a site of its own by a suffix", 6, jar::cookies);
        created(jar, "e=1");
        Calls.due("14 one of it went", 6, jar::cookies);
        Calls.due("38 evicted", 2, () -> jar.count(4));
    }

    private static void limitOfAll() {
        Calls.sentence("then, as long as there are more cookies than the second limit, the victim among all");
        CookieJar jar = jarOfHosts("c", "a", "b");
        jar.setLimit(1, 3);
        Calls.request(jar, "http://d");
        created(jar, "a=1;Priority=Low");
        Calls.due("17 the smallest serial number went", "a", Calls.domain(jar, 0));
        Calls.due("17 this one did not", "b", Calls.domain(jar, 1));
        Calls.due("17 nor the new one", "d", Calls.domain(jar, 2));
        Calls.due("38 evicted", 1, () -> jar.count(4));
    }

    private static void asLongAsThereAreMore() {
        Calls.sentence("After a cookie was created or replaced");
        CookieJar jar = jarWith("a=1", "b=1", "c=1", "d=1", "e=1", "f=1");
        jar.setLimit(0, 2);
        Calls.due("9 rejected", 0, () -> Calls.receive(jar, "="));
        Calls.due("9 ignored", 0, () -> Calls.receive(jar, "z=1;Max-Age=0"));
        Calls.due("9 removed", 3, () -> Calls.receive(jar, "f=1;Max-Age=0"));
        jar.advance(1);
        jar.send(true, false);
        Calls.due("14 none evicted", 5, jar::cookies);
        Calls.due("9 replaced", 2, () -> Calls.receive(jar, "b=2"));
        Calls.due("14 two left", "b e", Calls.names(jar));
        Calls.due("38 evicted", 3, () -> jar.count(4));
        CookieJar all = jarWith("a=1", "b=1", "c=1", "d=1", "e=1", "f=1");
        all.setLimit(1, 2);
        created(all, "g=1");
        Calls.due("14 two left", "f g", Calls.names(all));
        Calls.due("38 evicted", 5, () -> all.count(4));
        Calls.due("9 still says created", 1, () -> Calls.receive(all, "h=1"));
        Calls.due("14 two left", "g h", Calls.names(all));
        CookieJar elsewhere = jarWith("a=1", "b=1", "c=1");
        elsewhere.setLimit(0, 1);
        Calls.request(elsewhere, "https://c.d");
        created(elsewhere, "d=1");
        Calls.due("14 those of another site stay", "a b c d", Calls.names(elsewhere));
    }

    private static void siteBeforeAll() {
        Calls.sentence("then, as long as there are more cookies than the second limit");
        CookieJar jar = jarOfHosts("c.d");
        Calls.receive(jar, "a=1;Priority=Low");
        Calls.request(jar, "http://a.b");
        created(jar, "a=1");
        created(jar, "b=1");
        jar.setLimit(0, 2);
        jar.setLimit(1, 3);
        created(jar, "c=1");
        // one went for the site's sake, and then there are no more than three
        Calls.due("38 evicted", 1, () -> jar.count(4));
        Calls.due("14 in order", "b c a", Calls.names(jar));
        jar.setLimit(1, 2);
        created(jar, "d=1");
        Calls.due("38 one for the site, one for all", 3, () -> jar.count(4));
        Calls.due("14 the low one went for all", "c d", Calls.names(jar));
    }

    private static void neverTheNewOne() {
        Calls.sentence("The cookie that was just created or replaced is never the victim.");
        CookieJar jar = jarWith("a=1;Secure;Priority=High", "b=1;Secure;Priority=High");
        jar.setLimit(0, 2);
        created(jar, "c=long-value;Priority=Low");
        Calls.due("14 an old one went", "b c", Calls.names(jar));
        jar.setLimit(0, 1);
        Calls.due("9 replaced", 2, () -> Calls.receive(jar, "c=x;Priority=Low"));
        Calls.due("14 the old one went", "c", Calls.names(jar));
        created(jar, "a=1;Priority=Low");
        Calls.due("14 the only one is the new one", "a", Calls.names(jar));
        CookieJar all = jarWith("a=1;Secure;Priority=High", "b=1;Secure;Priority=High");
        all.setLimit(1, 1);
        Calls.due("9 replaced", 2, () -> Calls.receive(all, "a=1;Priority=Low"));
        Calls.due("14 the new one is left", "a", Calls.names(all));
        Calls.request(all, "https://c.d");
        created(all, "z=1;Priority=Low");
        Calls.due("14 the new one is left", "z", Calls.names(all));
        for (int policy = 0; policy < 4; policy++) {
            CookieJar by = jarWith("a=1;Max-Age=9");
            by.setPolicy(policy);
            by.setLimit(0, 1);
            created(by, "b=very-long;Max-Age=1");
            Calls.due("14 by policy " + policy, "b", Calls.names(by));
        }
    }

    private static void smallestAndLargestLimits() {
        Calls.sentence("n: 1 to 40");
        CookieJar one = Calls.jarAt("http://a.b");
        Calls.due("35 one of a site", 5, () -> one.setLimit(0, 1));
        Calls.due("35 one altogether", 20, () -> one.setLimit(1, 1));
        Calls.due("35 one altogether", 1, () -> one.setLimit(1, 1));
        created(one, "a=1");
        created(one, "b=1");
        Calls.due("14 one", "b", Calls.names(one));
        CookieJar forty = Calls.jarAt("http://a.b");
        Calls.due("35 forty of a site", 5, () -> forty.setLimit(0, 40));
        Calls.due("35 forty altogether", 20, () -> forty.setLimit(1, 40));
        for (char name = 'A'; name < 'A' + 43; name++) {
            created(forty, name + "=");
            int want = Math.min(name - 'A' + 1, 40);
            Calls.due("14 behind " + name, want, forty::cookies);
        }
        Calls.due("38 evicted", 3, () -> forty.count(4));
        Calls.due("22 the fourth is the first now", 3, () -> forty.serial(0));
        Calls.due("22 the last", 42, () -> forty.serial(39));
        Calls.due("22 none behind it", Calls.BAD_INDEX, () -> forty.serial(40));
        Calls.due("39 all are kept", 40, () -> forty.save(0));
        Calls.due("30 all go", 40, forty::clearSite);
        Calls.due("40 all are back", 40, () -> forty.restore(0));
        Calls.due("31 all go", 40, forty::endSession);
        Calls.due("40 all are back", 40, () -> forty.restore(0));
        Calls.due("32 none goes", 0, () -> forty.advance(1));
        Calls.due("22 in order", 42, () -> forty.serial(39));
        Calls.due("37 the victim of forty", 0, forty::victim);
        Calls.due("28 the first of forty", 0, () -> Calls.firstFrom(forty, "a.b"));
        Calls.due("29 the last of forty", 39, () -> forty.remove(39));
        CookieJar aged = Calls.jarAt("http://a.b");
        aged.setLimit(0, 40);
        aged.setLimit(1, 40);
        // no more of them can be received in 512 calls
        for (char name = 'A'; name < 'A' + 34; name++) {
            created(aged, name + "=;Max-Age=7");
        }
        Calls.due("34 of all", 7, aged::nextExpiry);
        Calls.due("31 none of them", 0, aged::endSession);
        Calls.due("32 none of them", 0, () -> aged.advance(6));
        Calls.due("32 all of them", 34, () -> aged.advance(1));
        CookieJar site = Calls.jarAt("http://a.b");
        site.setLimit(1, 40);
        site.setLimit(0, 39);
        for (char name = 'A'; name < 'A' + 41; name++) {
            created(site, name + "=");
        }
        Calls.due("14 thirty-nine", 39, site::cookies);
    }

    private static void limitsStay() {
        Calls.sentence("Cookies in the jar stay, even if there are more.");
        CookieJar jar = jarWith("a=1", "b=1", "c=1");
        Calls.due("35 of a site", 40, () -> jar.setLimit(0, 1));
        Calls.due("35 altogether", 40, () -> jar.setLimit(1, 2));
        Calls.due("14 three", 3, jar::cookies);
        Calls.due("38 none evicted", 0, () -> jar.count(4));
        Calls.sentence("Returns the previous limit.");
        Calls.due("35 of a site", 1, () -> jar.setLimit(0, 7));
        Calls.due("35 altogether", 2, () -> jar.setLimit(1, 8));
        Calls.due("35 of a site", 7, () -> jar.setLimit(0, 7));
        Calls.due("35 altogether", 8, () -> jar.setLimit(1, 8));
    }

    /** The victim of two cookies is the first one here, whichever came first; both are looked at by each policy. */
    private static void victim(String policies, String victim, String other) {
        for (int turn = 0; turn < 2; turn++) {
            CookieJar jar = jarWith((turn == 0 ? victim : other), (turn == 0 ? other : victim));
            int want = turn;
            for (int k = 0; k < policies.length(); k++) {
                jar.setPolicy(policies.charAt(k) - '0');
                Calls.due("37 \"" + victim + "\" or \"" + other + "\", policy " + policies.charAt(k), want,
                        () -> jar.serial(jar.victim()));
            }
        }
    }

    private static void victimByPriority() {
        Calls.sentence("The victim is the cookie with the lowest priority");
        victim("0123", "a=1;Priority=Low", "b=1");
        victim("0123", "a=1;Priority=Low", "b=1;Priority=High");
        victim("0123", "a=1", "b=1;Priority=High");
        victim("0123", "b=1;Priority=Low", "a=1");
        victim("0123", "a=1;Secure;Priority=Low", "b=22;Max-Age=1");
        victim("0123", "a=1;Secure", "b=22;Max-Age=1;Priority=High");
        victim("0123", "a=1;Priority=Low", "b=1;Secure;SameSite=None");
        victim("0123", "a=1;Priority=Low;SameSite=Strict", "b=1");
    }

    private static void victimBySecure() {
        Calls.sentence("of several, one that is not secure rather than one that is");
        victim("0123", "a=1", "b=1;Secure");
        victim("0123", "b=1", "a=1;Secure");
        victim("0123", "a=1;Priority=Low", "b=22;Secure;Max-Age=1;Priority=Low");
        victim("0123", "a=1;Priority=High", "b=22;Secure;Max-Age=1;Priority=High");
    }

    private static void victimByPolicy() {
        Calls.sentence("The policies: 0 the earliest access; 1 the earliest creation");
        CookieJar jar = Calls.jarAt("https://a.b/q");
        created(jar, "a=1;Path=/");
        jar.advance(1);
        created(jar, "b=1;Path=/r");
        Calls.due("37 created and accessed first", 0, jar::victim);
        jar.advance(1);
        jar.send(false, false);
        Calls.due("37 accessed first", "b", Calls.name(jar, jar.victim()));
        jar.setPolicy(1);
        Calls.due("37 created first", "a", Calls.name(jar, jar.victim()));
        created(jar, "0=long;Max-Age=1");
        Calls.due("37 created first, though the smallest", "a", Calls.name(jar, jar.victim()));
        jar.advance(1);
        Calls.receive(jar, "a=1;Path=/");
        Calls.due("37 created first, though replaced", "a", Calls.name(jar, jar.victim()));
        CookieJar aged = jarWith("a=1;Max-Age=9");
        aged.advance(1);
        created(aged, "b=22;Max-Age=1");
        aged.setPolicy(1);
        Calls.due("37 created first, though it runs out later", 0, aged::victim);
        aged.setPolicy(0);
        Calls.due("37 accessed first, though it runs out later", 0, aged::victim);
        Calls.sentence("2 the earliest expiry, session cookies after all others");
        victim("2", "a=1;Max-Age=1", "b=1;Max-Age=2");
        victim("2", "b=1;Max-Age=1", "a=1;Max-Age=2");
        victim("2", "a=1;Max-Age=1", "b=1");
        victim("2", "a=1;Max-Age=34560000", "b=1");
        victim("2", "a=1;Expires=31 Dec 9999 23:59:59", "b=1");
        Calls.sentence("3 the greatest size (length of the name plus length of the value)");
        victim("3", "a=22", "b=1");
        victim("3", "aa=1", "b=1");
        victim("3", "aa=", "b=");
        victim("3", "b=1", "a=");
        victim("3", "a=333", "bb=1");
        victim("3", "aaaa=", "b=22");
        victim("3", "a=22", "b=1;Path=/very/long");
        victim("3", "sixteen-letters-=thirty-two-letters-is-the-most--",
                "sixteen-letters+=thirty-two-letters-is-the-most-");
        Calls.sentence("of several, the first one by the policy");
        victim("2", "a=1;Max-Age=1;Secure", "b=1;Max-Age=2;Secure");
        victim("2", "a=1;Max-Age=1;Priority=Low", "b=1;Max-Age=2;Priority=Low");
        victim("3", "a=22;Secure;Priority=High", "b=1;Secure;Priority=High");
        victim("3", "a=22;Max-Age=9", "b=1;Max-Age=1");
        victim("2", "b=1;Max-Age=1", "a=22;Max-Age=9");
        Calls.sentence("Initially the policy is 0.");
        Calls.due("36 at first", 0, () -> new CookieJar().setPolicy(3));
    }

    private static void victimBySerial() {
        Calls.sentence("of several, the one with the smallest serial number");
        for (int policy = 0; policy < 4; policy++) {
            for (String more : new String[] {"", ";Max-Age=5", ";Secure", ";Priority=Low", ";Priority=High"}) {
                CookieJar jar = jarWith("b=1" + more, "c=1" + more, "a=1" + more);
                jar.setPolicy(policy);
                Calls.due("37 the first of three", 1, jar::victim);
                jar.remove(1);
                Calls.due("37 the second of three", 1, jar::victim);
                jar.remove(1);
                Calls.due("37 the third of three", 0, jar::victim);
                created(jar, "0=1" + more);
                Calls.due("37 a new one comes behind", 1, jar::victim);
            }
        }
    }

    private static void victimOfNone() {
        Calls.sentence("-1 if there are no cookies");
        CookieJar jar = Calls.jarAt("https://a.b");
        for (int policy = 0; policy < 4; policy++) {
            jar.setPolicy(policy);
            Calls.due("37 of none", -1, jar::victim);
        }
        created(jar, "a=1;Secure;Priority=High");
        for (int policy = 0; policy < 4; policy++) {
            jar.setPolicy(policy);
            Calls.due("37 the only one", 0, jar::victim);
        }
        Calls.due("14 victim() evicts none", 1, jar::cookies);
        jar.remove(0);
        Calls.due("37 of none again", -1, jar::victim);
        Calls.sentence("Returns the victim among all cookies.");
        CookieJar sites = jarOfHosts("c.d", "a.b");
        Calls.due("37 of whatever site", 1, sites::victim);
    }

    private static void setPolicy() {
        Calls.sentence("Returns the previous policy.");
        CookieJar jar = new CookieJar();
        int before = 0;
        for (int policy : new int[] {0, 1, 2, 3, 3, 0, 2}) {
            Calls.due("36 setPolicy(" + policy + ")", before, () -> jar.setPolicy(policy));
            before = policy;
        }
    }
}
