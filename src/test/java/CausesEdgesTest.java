/** Edges of the causes of rejection, of replacing and removing by receive(), and of rejection() (promises 9, 10). */
public final class CausesEdgesTest {
    private static final String SIXTEEN = "sixteen-letters-";
    private static final String THIRTY_TWO = "thirty-two-letters-is-the-most--";

    public static void main(String[] args) {
        causes11And12();
        cause13();
        cause21();
        cause22();
        cause31();
        cause61();
        cause32ByRequestAndCookie();
        cause32ByName();
        cause32ByDomain();
        cause32ByPath();
        cause51();
        cause41();
        cause42();
        cause62();
        firstCauseCounts();
        rejectedChangesNoCookie();
        removedOrIgnored();
        replaced();
        keysThatDiffer();
        neverTogether();
        accessTimes();
        textBehindReceiving();
        rejection();
        counts();
        Calls.end();
    }

    private static void due(CookieJar jar, String cookie, boolean script, int answer, int cause) {
        Calls.due("9 \"" + cookie + "\"", answer, () -> Calls.receive(jar, cookie, script));
        Calls.due("10 cause of \"" + cookie + "\"", cause, () -> jar.rejection(1));
        Calls.due("10 its first digit", cause / 10, () -> jar.rejection(0));
    }

    private static void rejected(CookieJar jar, String cookie, int cause) {
        due(jar, cookie, false, 0, cause);
    }

    private static void created(CookieJar jar, String cookie) {
        due(jar, cookie, false, 1, 0);
    }

    /** For a new jar with a request. */
    private static void rejectedAt(String address, String cookie, int cause) {
        rejected(Calls.jarAt(address), cookie, cause);
    }

    private static void createdAt(String address, String cookie) {
        created(Calls.jarAt(address), cookie);
    }

    private static void causes11And12() {
        Calls.sentence("11 the first part contains no \"=\"; 12 the name is empty");
        for (String cookie : new String[] {"", " ", ";", ";=", "a", "a;=", " ;a=1"}) {
            rejectedAt("https://a.b", cookie, 11);
        }
        for (String cookie : new String[] {"=", "  =  ", "=a", "==", "=;", " =a=b;c"}) {
            rejectedAt("https://a.b", cookie, 12);
        }
        createdAt("https://a.b", "a=");
        createdAt("https://a.b", "-=");
    }

    private static void cause13() {
        Calls.sentence("13 the name has more than 16 or the value more than 32 characters");
        createdAt("https://a.b", SIXTEEN.substring(1) + "=");
        createdAt("https://a.b", SIXTEEN + "=");
        rejectedAt("https://a.b", SIXTEEN + "x=", 13);
        createdAt("https://a.b", "a=" + THIRTY_TWO.substring(1));
        createdAt("https://a.b", "a=" + THIRTY_TWO);
        rejectedAt("https://a.b", "a=" + THIRTY_TWO + "x", 13);
        rejectedAt("https://a.b", SIXTEEN + "x=" + THIRTY_TWO + "x", 13);
        createdAt("https://a.b", "  " + SIXTEEN + "  =  " + THIRTY_TWO + "  ");
        rejectedAt("https://a.b", "eight--- eight---=", 13);
        rejectedAt("https://a.b", "a=" + THIRTY_TWO.substring(1) + " x", 13);
        rejectedAt("https://a.b", "a=" + "x".repeat(158), 13);
        rejectedAt("https://a.b", "x".repeat(159) + "=", 13);
        CookieJar jar = Calls.jarAt("https://a.b");
        created(jar, SIXTEEN + "=" + THIRTY_TWO);
        Calls.due("15 whole", SIXTEEN, Calls.name(jar, 0));
        Calls.due("15 behind the sixteenth", -1, () -> jar.nameChar(0, 16));
        Calls.due("16 whole", THIRTY_TWO, Calls.value(jar, 0));
        Calls.due("16 behind the last", -1, () -> jar.valueChar(0, 32));
    }

    private static void cause21() {
        Calls.sentence("21 d is public, and not equal to the host");
        rejectedAt("https://a.b", "a=1;Domain=b", 21);
        rejectedAt("https://a.b", "a=1;Domain=a", 21);
        rejectedAt("https://a.b", "a=1;Domain=c", 21);
        rejectedAt("https://b", "a=1;Domain=c", 21);
        createdAt("https://b", "a=1;Domain=b");
        CookieJar jar = Calls.jarAt("https://x.a.b");
        created(jar, "a=1;Domain=a.b");
        Calls.suffix(jar, "a.b");
        rejected(jar, "a=1;Domain=a.b", 21);
        rejected(jar, "a=1;Domain=.A.B", 21);
        created(jar, "b=1;Domain=x.a.b");
        Calls.request(jar, "https://a.b");
        created(jar, "c=1;Domain=a.b");
        Calls.suffix(jar, "q.r");
        rejected(jar, "a=1;Domain=q.r", 21);
        Calls.suffix(jar, "x.a.b");
        rejected(jar, "a=1;Domain=x.a.b", 21);
    }

    private static void cause22() {
        Calls.sentence("22 the host does not match d (also if d is not a domain; it is not public then)");
        rejectedAt("https://a.b", "a=1;Domain=c.b", 22);
        rejectedAt("https://a.b", "a=1;Domain=x.a.b", 22);
        rejectedAt("https://xa.b", "a=1;Domain=a.b", 22);
        rejectedAt("https://b", "a=1;Domain=a.b", 22);
        createdAt("https://a.b", "a=1;Domain=a.b");
        createdAt("https://x.a.b", "a=1;Domain=a.b");
        for (String none : new String[] {"..", "a.b.", "..a.b", "a..b", "a_b", "a b", "*", "https://a.b", "a.b/", "a,b",
            "a.b:80", "[", "@", "~", "=", "a.b=", "abcdefghijabcdefghijabcdefghijk"}) {
            rejectedAt("https://a.b", "a=1;Domain=" + none, 22);
        }
    }

    private static void cause31() {
        Calls.sentence("31 it is secure, but the request is \"http\"");
        rejectedAt("http://a.b", "a=1;Secure", 31);
        createdAt("https://a.b", "a=1;Secure");
        createdAt("http://a.b", "a=1");
        createdAt("https://a.b", "a=1");
        CookieJar page = Calls.jarAt("http://a.b");
        Calls.page(page, "https://a.b");
        rejected(page, "a=1;Secure", 31);
    }

    private static void cause61() {
        Calls.sentence("61 it is http-only and set by a script");
        due(Calls.jarAt("https://a.b"), "a=1;HttpOnly", true, 0, 61);
        due(Calls.jarAt("https://a.b"), "a=1;HttpOnly", false, 1, 0);
        due(Calls.jarAt("https://a.b"), "a=1", true, 1, 0);
        due(Calls.jarAt("https://a.b"), "a=1;HttpOnly;Max-Age=0", true, 0, 61);
    }

    /** A jar with a cookie that was received for one address, and a request for another one. */
    private static CookieJar jarWith(String address, String cookie, String then) {
        CookieJar jar = Calls.jarAt(address);
        Calls.due("9 \"" + cookie + "\" by " + address, 1, () -> Calls.receive(jar, cookie));
        Calls.request(jar, then);
        return jar;
    }

    private static void cause32ByRequestAndCookie() {
        Calls.sentence("32 it is not secure, the request is \"http\", and there is a secure cookie in the jar");
        rejected(jarWith("https://a.b", "s=1;Secure", "http://a.b"), "s=2", 32);
        rejected(jarWith("https://a.b", "s=1;Secure", "http://a.b"), "s=2;Secure", 31);
        due(jarWith("https://a.b", "s=1;Secure", "https://a.b"), "s=2", false, 2, 0);
        due(jarWith("https://a.b", "s=1", "http://a.b"), "s=2", false, 2, 0);
        rejected(jarWith("https://a.b", "s=1;Secure", "http://a.b"), "s=2;Max-Age=0", 32);
        due(jarWith("https://a.b", "s=1;Secure", "http://a.b"), "s=2", true, 0, 32);
        rejected(jarWith("https://a.b", "s=1;Secure", "http://a.b"), "s=2;HttpOnly", 32);
        rejected(jarWith("https://a.b", "s=1;Secure;HttpOnly", "http://a.b"), "s=2", 32);
        CookieJar gone = jarWith("https://a.b", "s=1;Secure;Max-Age=9", "http://a.b");
        gone.advance(8);
        rejected(gone, "s=2", 32);
        gone.advance(1);
        created(gone, "s=2");
        CookieJar several = jarWith("https://a.b", "s=1;Secure;Path=/q", "https://a.b");
        created(several, "s=1;Path=/");
        created(several, "r=1;Secure");
        created(several, "t=1;Secure");
        Calls.request(several, "http://a.b");
        rejected(several, "s=1;Path=/q", 32);
        rejected(several, "r=1", 32);
        rejected(several, "t=1", 32);
        due(several, "s=1;Path=/", false, 2, 0);
    }

    private static void cause32ByName() {
        Calls.sentence("with the same name");
        for (String name : new String[] {"S", "s1", "as", "s s", "t", "x.s", "s.x", "s/x", "x/s", "s/"}) {
            created(jarWith("https://a.b", "s=1;Secure", "http://a.b"), name + "=2");
            created(jarWith("https://a.b", name + "=1;Secure", "http://a.b"), "s=2");
        }
        rejected(jarWith("https://a.b", "s=1;Secure", "http://a.b"), "  s  =2", 32);
    }

    private static void cause32ByDomain() {
        Calls.sentence("such that the domain of one of both matches that of the other one");
        rejected(jarWith("https://a.b", "s=1;Secure", "http://x.a.b"), "s=2", 32);
        rejected(jarWith("https://x.a.b", "s=1;Secure", "http://a.b"), "s=2", 32);
        rejected(jarWith("https://a.b", "s=1;Secure;Domain=a.b", "http://a.b"), "s=2", 32);
        rejected(jarWith("https://a.b", "s=1;Secure", "http://a.b"), "s=2;Domain=a.b", 32);
        rejected(jarWith("https://x.a.b", "s=1;Secure;Domain=a.b", "http://y.a.b"), "s=2", 32);
        rejected(jarWith("https://x.a.b", "s=1;Secure", "http://y.a.b"), "s=2;Domain=a.b", 32);
        created(jarWith("https://x.a.b", "s=1;Secure", "http://y.a.b"), "s=2");
        created(jarWith("https://a.b", "s=1;Secure", "http://xa.b"), "s=2");
        created(jarWith("https://xa.b", "s=1;Secure", "http://a.b"), "s=2");
        created(jarWith("https://a.b", "s=1;Secure", "http://c.b"), "s=2");
        rejected(jarWith("https://a.b", "s=1;Secure", "http://b"), "s=2", 32);
    }

    /** By the paths of the old and the new cookie. */
    private static void cause32ByPath(String old, String fresh, boolean applies) {
        CookieJar jar = jarWith("https://x.a.b", "s=1;Secure;Path=" + old, "http://x.a.b");
        due(jar, "s=2;Domain=a.b;Path=" + fresh, false, applies ? 0 : 1, applies ? 32 : 0);
    }

    private static void cause32ByPath() {
        Calls.sentence("and the path of the new cookie path-matches the path of the old one");
        cause32ByPath("/", "/", true);
        cause32ByPath("/", "/q", true);
        cause32ByPath("/q", "/q", true);
        cause32ByPath("/q", "/q/", true);
        cause32ByPath("/q", "/q/r", true);
        cause32ByPath("/q/", "/q/r", true);
        cause32ByPath("/q/", "/q/", true);
        cause32ByPath("/q", "/", false);
        cause32ByPath("/q/", "/q", false);
        cause32ByPath("/q", "/qr", false);
        cause32ByPath("/q", "/Q", false);
        cause32ByPath("/q", "/r", false);
        cause32ByPath("/q/r", "/q", false);
    }

    private static void cause51() {
        Calls.sentence("51 same-site is none, and it is not secure");
        rejectedAt("https://a.b", "a=1;SameSite=None", 51);
        rejectedAt("http://a.b", "a=1;SameSite=None", 51);
        createdAt("https://a.b", "a=1;SameSite=None;Secure");
        createdAt("https://a.b", "a=1;SameSite=Lax");
        createdAt("https://a.b", "a=1;SameSite=Strict");
        createdAt("https://a.b", "a=1");
        createdAt("https://a.b", "a=1;SameSite=None;SameSite=Lax");
        rejectedAt("https://a.b", "a=1;SameSite=None;Max-Age=0", 51);
    }

    private static void cause41() {
        Calls.sentence("41 the name begins with \"__Secure-\", and it is not secure");
        rejectedAt("https://a.b", "__Secure-=1", 41);
        rejectedAt("https://a.b", "__Secure-a=1", 41);
        rejectedAt("https://a.b", " __Secure-a =1", 41);
        rejectedAt("http://a.b", "__Secure-a=1", 41);
        createdAt("https://a.b", "__Secure-a=1;Secure");
        createdAt("https://a.b", "__Secure-=1;Secure");
        for (String name : new String[] {"__Secure", "__Secur-a", "_Secure-a", "__secure-a", "__SECURE-a", "__Securea-",
            "a__Secure-", "__Secure_a", "Secure-", "__ Secure-"}) {
            createdAt("https://a.b", name + "=1");
        }
    }

    private static void cause42() {
        Calls.sentence("42 the name begins with \"__Host-\", and it is not secure, not host-only, or its path is not \"/\"");
        createdAt("https://a.b", "__Host-a=1;Secure");
        createdAt("https://a.b/x", "__Host-a=1;Secure");
        createdAt("https://a.b/x/y", "__Host-a=1;Secure;Path=/");
        createdAt("https://a.b", "__Host-=1;Secure");
        createdAt("https://b", "__Host-a=1;Secure;Domain=b");
        rejectedAt("https://a.b", "__Host-a=1", 42);
        rejectedAt("http://a.b", "__Host-a=1", 42);
        rejectedAt("https://a.b", "__Host-a=1;Secure;Domain=a.b", 42);
        rejectedAt("https://a.b", "__Host-a=1;Secure;Path=/x", 42);
        rejectedAt("https://a.b", "__Host-a=1;Secure;Path=//", 42);
        rejectedAt("https://a.b/x/", "__Host-a=1;Secure", 42);
        rejectedAt("https://a.b/x/y", "__Host-=1;Secure", 42);
        for (String name : new String[] {"__Host", "__Hos-a", "_Host-a", "__host-a", "__HOST-a", "a__Host-", "__Host_a"}) {
            createdAt("https://a.b", name + "=1;Domain=a.b;Path=/x");
        }
    }

    private static void cause62() {
        Calls.sentence("62 it is set by a script, and the cookie in the jar with the same name, domain, path and "
                + "host-only property is http-only");
        String old = "h=1;HttpOnly";
        due(jarWith("https://a.b", old, "https://a.b"), "h=2", true, 0, 62);
        due(jarWith("https://a.b", old, "https://a.b"), "h=2;Max-Age=0", true, 0, 62);
        due(jarWith("https://a.b", old, "https://a.b"), "h=2", false, 2, 0);
        due(jarWith("https://a.b", "h=1", "https://a.b"), "h=2", true, 2, 0);
        due(jarWith("https://a.b", old, "https://a.b"), "H=2", true, 1, 0);
        due(jarWith("https://a.b", old, "https://x.a.b"), "h=2", true, 1, 0);
        due(jarWith("https://a.b", old, "https://a.b"), "h=2;Path=/x", true, 1, 0);
        due(jarWith("https://a.b", old, "https://a.b"), "h=2;Domain=a.b", true, 1, 0);
        due(jarWith("https://a.b", old + ";Domain=a.b", "https://a.b"), "h=2", true, 1, 0);
        due(jarWith("https://a.b", old + ";Domain=a.b", "https://x.a.b"), "h=2;Domain=a.b", true, 0, 62);
        CookieJar gone = jarWith("https://a.b", old + ";Max-Age=5", "https://a.b");
        gone.advance(5);
        due(gone, "h=2", true, 1, 0);
    }

    /** A jar that gives the later causes reason to apply, where an earlier one does not. */
    private static CookieJar guardedJar(String address) {
        CookieJar jar = Calls.jarAt("https://x.a.b");
        created(jar, "s=1;Secure;HttpOnly");
        created(jar, "__Secure-s=1;Secure;HttpOnly");
        created(jar, "__Host-s=1;Secure;HttpOnly");
        Calls.request(jar, address);
        return jar;
    }

    private static void first(String address, String cookie, int cause) {
        due(guardedJar(address), cookie, true, 0, cause);
    }

    private static void firstCauseCounts() {
        Calls.sentence("The cookie is rejected for the first of these causes that applies");
        String tooLong = "a=" + THIRTY_TWO + "x";
        String https = "https://x.a.b";
        first(https, "a;Domain=b;HttpOnly;SameSite=None", 11);
        first(https, "=" + THIRTY_TWO + "x;Domain=b", 12);
        first(https, tooLong + ";Domain=b", 13);
        first(https, tooLong + ";Domain=c.d", 13);
        first(https, "s=1;HttpOnly;SameSite=None", 61);
        first(https, "s=1;HttpOnly", 61);
        first(https, "__Secure-s=1;SameSite=None", 51);
        first(https, "__Host-s=1;SameSite=None", 51);
        first(https, "s=1;SameSite=None", 51);
        first(https, "__Secure-s=1", 41);
        first(https, "__Host-s=1", 42);
        first(https, "s=1", 62);
        String http = "http://x.a.b";
        first(http, tooLong + ";Secure", 13);
        first(http, "s=1;Domain=b;Secure;HttpOnly", 21);
        first(http, "s=1;Domain=c.d;Secure;HttpOnly", 22);
        first(http, "s=1;Domain=b;HttpOnly", 21);
        first(http, "s=1;Secure;HttpOnly", 31);
        first(http, "__Host-s=1;Secure;Path=/x", 31);
        first(http, "s=1;Secure", 31);
        first(http, "s=1;HttpOnly", 61);
        first(http, "__Secure-s=1;HttpOnly", 61);
        first(http, "s=1;SameSite=None", 32);
        first(http, "__Secure-s=1", 32);
        first(http, "__Host-s=1", 32);
        first(http, "s=1", 32);
    }

    private static void rejectedChangesNoCookie() {
        Calls.sentence("0 if the cookie was rejected or ignored");
        CookieJar jar = Calls.jarAt("https://a.b");
        created(jar, "h=1;HttpOnly");
        jar.setLimit(0, 1);
        jar.setLimit(1, 1);
        jar.advance(9);
        due(jar, "h=2;Priority=High", true, 0, 62);
        Calls.due("16 value", "1", Calls.value(jar, 0));
        Calls.due("21 access", 0, () -> jar.accessed(0));
        Calls.due("27 priority", 1, () -> jar.priority(0));
        due(jar, "h=2;Max-Age=0", true, 0, 62);
        Calls.due("14 still there", 1, jar::cookies);
        Calls.due("38 no eviction", 0, () -> jar.count(4));
        Calls.due("38 rejected", 2, () -> jar.count(5));
    }

    private static void removedOrIgnored() {
        Calls.sentence("this one is removed if the new one is expired");
        for (String expired : new String[] {"Max-Age=0", "Max-Age=-1", "Expires=01 Jan 1970 00:00:00"}) {
            CookieJar jar = Calls.jarAt("https://a.b");
            created(jar, "a=1");
            created(jar, "b=1;Max-Age=50");
            due(jar, "b=2;" + expired, false, 3, 0);
            Calls.due("14 the other one stays", "a", Calls.names(jar));
            Calls.sentence("If there is none, the new one is created, or ignored if it is expired.");
            due(jar, "b=2;" + expired, false, 0, 0);
            due(jar, "a=2;Path=/x;" + expired, false, 0, 0);
            due(jar, "a=2;Domain=a.b;" + expired, false, 0, 0);
            Calls.due("14 still there", "a", Calls.names(jar));
            Calls.due("38 removed", 1, () -> jar.count(2));
            Calls.due("38 ignored", 3, () -> jar.count(6));
            Calls.due("38 rejected", 0, () -> jar.count(5));
            Calls.due("38 not by advance()", 0, () -> jar.count(3));
            created(jar, "b=3");
            Calls.due("22 with the next serial number", 2, () -> jar.serial(1));
        }
        Calls.sentence("this one is removed if the new one is expired");
        CookieJar none = Calls.jarAt("https://a.b");
        due(none, "a=1;Max-Age=0", false, 0, 0);
        Calls.due("14 none", 0, none::cookies);
        Calls.due("38 no serial number is used", 0, () -> none.count(0));
        created(none, "a=1");
        Calls.due("22 the first serial number", 0, () -> none.serial(0));
    }

    private static void replaced() {
        Calls.sentence("otherwise it is replaced by the new one, which keeps its serial number and its creation time");
        CookieJar jar = Calls.jarAt("https://a.b");
        jar.advance(3);
        created(jar, "z=1");
        created(jar, "a=1;Secure;HttpOnly;SameSite=None;Priority=High;Max-Age=99");
        jar.advance(4);
        due(jar, "a=22;Priority=Low", false, 2, 0);
        Calls.due("14 two", 2, jar::cookies);
        Calls.due("16 value", "22", Calls.value(jar, 0));
        Calls.due("19 expiry", -1, () -> jar.expiry(0));
        Calls.due("20 creation of the old one", 3, () -> jar.created(0));
        Calls.due("21 access", 7, () -> jar.accessed(0));
        Calls.due("22 serial number of the old one", 1, () -> jar.serial(0));
        Calls.due("24 secure", false, jar.isSecure(0));
        Calls.due("25 http-only", false, jar.isHttpOnly(0));
        Calls.due("26 same-site", 1, () -> jar.sameSite(0));
        Calls.due("27 priority", 0, () -> jar.priority(0));
        due(jar, "a=;Secure;HttpOnly;SameSite=Strict;Priority=High;Max-Age=1", false, 2, 0);
        Calls.due("16 value", "", Calls.value(jar, 0));
        Calls.due("19 expiry", 8, () -> jar.expiry(0));
        Calls.due("24 secure", true, jar.isSecure(0));
        Calls.due("25 http-only", true, jar.isHttpOnly(0));
        Calls.due("26 same-site", 2, () -> jar.sameSite(0));
        Calls.due("27 priority", 2, () -> jar.priority(0));
        created(jar, "b=1");
        Calls.due("22 the next serial number", 2, () -> jar.serial(1));
    }

    private static void keysThatDiffer() {
        Calls.sentence("there is a cookie with the same name, domain, path and host-only property in the jar");
        CookieJar jar = Calls.jarAt("https://a.b");
        jar.setLimit(0, 40);
        created(jar, "a=1");
        created(jar, "A=1");
        created(jar, "aa=1");
        created(jar, "a=1;Path=/x");
        created(jar, "a=1;Path=/x/");
        created(jar, "a=1;Domain=a.b");
        created(jar, "a=1;Domain=a.b;Path=/x");
        Calls.request(jar, "https://x.a.b");
        created(jar, "a=1");
        created(jar, "a=1;Domain=x.a.b");
        due(jar, "a=2;Domain=a.b", false, 2, 0);
        due(jar, "a=2;Domain=.A.b;Path=/x", false, 2, 0);
        due(jar, "a=2;Path=/", false, 2, 0);
        Calls.due("14 nine", 9, jar::cookies);
    }

    private static void neverTogether() {
        Calls.sentence("Two cookies with the same name, domain, path and the same host-only property are never in the jar "
                + "together.");
        CookieJar jar = Calls.jarAt("https://a.b/x/y");
        created(jar, "a=1");
        due(jar, "a=2;Path=/x", false, 2, 0);
        Calls.request(jar, "http://a.b/x/z");
        due(jar, "a=3;SameSite=Strict", false, 2, 0);
        Calls.due("14 one", 1, jar::cookies);
        Calls.suffix(jar, "a.b");
        due(jar, "a=4;Domain=a.b", false, 2, 0);
        Calls.due("14 one", 1, jar::cookies);
        Calls.due("16 the last", "4", Calls.value(jar, 0));
    }

    private static void accessTimes() {
        Calls.sentence("The time of the latest access of a cookie that is created or replaces another one is the present "
                + "time.");
        CookieJar jar = Calls.jarAt("https://a.b");
        created(jar, "a=1");
        Calls.due("21 at time 0", 0, () -> jar.accessed(0));
        jar.advance(5);
        created(jar, "b=1");
        Calls.due("21 created", 5, () -> jar.accessed(1));
        Calls.due("20 created", 5, () -> jar.created(1));
        Calls.due("21 not the other one", 0, () -> jar.accessed(0));
        jar.advance(5);
        due(jar, "a=1", false, 2, 0);
        Calls.due("21 replaced", 10, () -> jar.accessed(0));
        Calls.advanceTo(jar, 5000000000L);
        created(jar, "c=1");
        Calls.due("20 beyond an int", 5000000000L, () -> jar.created(2));
        Calls.due("21 beyond an int", 5000000000L, () -> jar.accessed(2));
    }

    private static void textBehindReceiving() {
        Calls.sentence("The text is empty then, also if the cookie is rejected or ignored.");
        CookieJar jar = Calls.jarAt("https://a.b");
        String[] cookies = {"a=1", "a=2", "a=3;Max-Age=0", "a=4;Max-Age=0", "", "=", "a=1;Domain=b", "a=1;SameSite=None"};
        int[] answers = {1, 2, 3, 0, 0, 0, 0, 0};
        for (int k = 0; k < cookies.length; k++) {
            String cookie = cookies[k];
            Calls.due("9 \"" + cookie + "\"", answers[k], () -> Calls.receive(jar, cookie));
            Calls.due("3 behind \"" + cookie + "\"", 0, jar::clearText);
        }
    }

    private static void rejection() {
        Calls.sentence("0 if it was not rejected, or there was no such call");
        CookieJar jar = new CookieJar();
        Calls.due("10 no call", 0, () -> jar.rejection(0));
        Calls.due("10 no call", 0, () -> jar.rejection(1));
        Calls.due("9 refused", Calls.BAD_STATE, () -> jar.receive(true));
        Calls.due("10 no such call", 0, () -> jar.rejection(0));
        Calls.due("10 no such call", 0, () -> jar.rejection(1));
        Calls.request(jar, "https://a.b");
        for (String cookie : new String[] {"a=1", "a=2", "a=3;Max-Age=0", "a=4;Max-Age=0"}) {
            rejected(jar, "", 11);
            Calls.receive(jar, cookie);
            Calls.due("10 not rejected: " + cookie, 0, () -> jar.rejection(0));
            Calls.due("10 not rejected: " + cookie, 0, () -> jar.rejection(1));
        }
        Calls.sentence("Tells why the cookie of the latest call of receive() that threw no exception was rejected.");
        rejected(jar, "a=1;Domain=b", 21);
        rejected(jar, "a=1;SameSite=None", 51);
        jar.send(false, false);
        jar.advance(1);
        Calls.request(jar, "https://c.d");
        Calls.due("10 the latest", 51, () -> jar.rejection(1));
        Calls.due("10 the latest", 5, () -> jar.rejection(0));
    }

    private static void counts() {
        Calls.sentence("0 a cookie was created, 1 replaced, 2 removed by an expired one, 3 removed by advance(), 4 "
                + "evicted, 5 rejected, 6 ignored because it was expired");
        String[] cookies = {"a=1", "a=2", "a=3;Max-Age=0", "a=4;Max-Age=0", "a", "b=1;Max-Age=1", "c=1", "d=1"};
        int[][] want = {{1, 0, 0, 0, 0, 0, 0}, {1, 1, 0, 0, 0, 0, 0}, {1, 1, 1, 0, 0, 0, 0}, {1, 1, 1, 0, 0, 0, 1},
            {1, 1, 1, 0, 0, 1, 1}, {2, 1, 1, 0, 0, 1, 1}, {3, 1, 1, 0, 1, 1, 1}, {4, 1, 1, 0, 2, 1, 1}};
        CookieJar jar = Calls.jarAt("https://a.b");
        jar.setLimit(0, 1);
        for (int k = 0; k < cookies.length; k++) {
            Calls.receive(jar, cookies[k]);
            for (int event = 0; event < 7; event++) {
                int e = event;
                Calls.due("38 count(" + e + ") behind " + cookies[k], want[k][e], () -> jar.count(e));
            }
        }
        Calls.receive(jar, "d=1;Max-Age=1");
        jar.advance(1);
        Calls.due("38 count(3)", 1, () -> jar.count(3));
        Calls.due("38 count(2)", 1, () -> jar.count(2));
    }
}
