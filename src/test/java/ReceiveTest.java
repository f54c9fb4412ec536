/** Promises 9 and 10: reading a cookie, and the causes of rejection. */
public final class ReceiveTest {
    private static final long LONGEST = 34560000;

    public static void main(String[] args) {
        answers();
        namesAndValues();
        domains();
        paths();
        flags();
        ages();
        dates();
        datesThatAreNone();
        ageBeforeDate();
        lastOneCounts();
        causesOfText();
        causesOfDomain();
        causesOfSecureAndScript();
        causeOfSecureCookieInJar();
        causesOfPrefixes();
        firstCauseCounts();
        rejection();
        evictsBySite();
        evictsByAll();
        Calls.end();
    }

    private static void answers() {
        CookieJar jar = new CookieJar();
        Calls.type(jar, "a=1");
        Calls.due("9 no request", Calls.BAD_STATE, () -> jar.receive(false));
        Calls.due("9 the text stays", 3, jar::clearText);
        Calls.request(jar, "http://a.b/x/y");
        Calls.due("9 created", 1, () -> Calls.receive(jar, "a=1"));
        Calls.due("9 the text is empty", 0, jar::clearText);
        jar.advance(10);
        Calls.due("9 created another", 1, () -> Calls.receive(jar, "b=1"));
        jar.advance(10);
        Calls.due("9 replaced", 2, () -> Calls.receive(jar, "a=22; Priority=High"));
        Calls.due("9 value of the new one", "22", Calls.value(jar, 0));
        Calls.due("9 priority of the new one", 2, () -> jar.priority(0));
        Calls.due("9 serial of the old one", 0, () -> jar.serial(0));
        Calls.due("9 creation of the old one", 0, () -> jar.created(0));
        Calls.due("9 access is now", 20, () -> jar.accessed(0));
        Calls.due("9 another path is another cookie", 1, () -> Calls.receive(jar, "a=1; Path=/"));
        Calls.due("9 its serial", 2, () -> jar.serial(0));
        Calls.due("9 not host-only is another cookie", 1, () -> Calls.receive(jar, "a=1; Domain=a.b"));
        Calls.due("9 ignored", 0, () -> Calls.receive(jar, "c=1; Max-Age=0"));
        Calls.due("9 the text is empty then too", 0, jar::clearText);
        Calls.due("9 removed", 3, () -> Calls.receive(jar, "b=1; Max-Age=-5"));
        Calls.due("9 rejected", 0, () -> Calls.receive(jar, "=1"));
        Calls.due("9 and then too", 0, jar::clearText);
        Calls.due("9 left", 3, jar::cookies);
        Calls.due("9 created after a removal", 1, () -> Calls.receive(jar, "b=1"));
        Calls.due("9 has a new serial", 4, () -> jar.serial(jar.cookies() - 1));
    }

    /** A jar with this one cookie, received for "https://x.a.b/p/q". */
    private static CookieJar jarWith(String cookie) {
        CookieJar jar = Calls.jarAt("https://x.a.b/p/q");
        Calls.due("9 " + cookie, 1, () -> Calls.receive(jar, cookie));
        return jar;
    }

    private static void pair(String cookie, String name, String value) {
        CookieJar jar = jarWith(cookie);
        Calls.due("9 name of " + cookie, name, Calls.name(jar, 0));
        Calls.due("9 value of " + cookie, value, Calls.value(jar, 0));
    }

    private static void namesAndValues() {
        pair("a=1", "a", "1");
        pair("a=", "a", "");
        pair("  a b  =  c d  ", "a b", "c d");
        pair("a==1=2", "a", "=1=2");
        pair("a=1;b=2", "a", "1");
        pair("a= ;", "a", "");
        pair("A=\"x\"", "A", "\"x\"");
        pair("sixteen-letters-=thirty-two-letters-is-the-most--", "sixteen-letters-", "thirty-two-letters-is-the-most--");
    }

    private static void domain(String cookie, String domain, boolean hostOnly) {
        CookieJar jar = jarWith(cookie);
        Calls.due("9 domain of " + cookie, domain, Calls.domain(jar, 0));
        Calls.due("9 host-only of " + cookie, hostOnly, jar.isHostOnly(0));
    }

    private static void domains() {
        domain("a=1", "x.a.b", true);
        domain("a=1; Domain=x.a.b", "x.a.b", false);
        domain("a=1; Domain=a.b", "a.b", false);
        domain("a=1; Domain=.a.b", "a.b", false);
        domain("a=1; dOmAiN = A.B ", "a.b", false);
        domain("a=1; DOMAIN=X.A.B", "x.a.b", false);
        domain("a=1; Domain=", "x.a.b", true);
        domain("a=1; Domain", "x.a.b", true);
        domain("a=1; Domain=.", "x.a.b", true);
        domain("a=1; Domain=a.b; Domain=", "a.b", false);
        CookieJar letters = Calls.jarAt("http://azmn.b");
        Calls.due("9 all letters", 1, () -> Calls.receive(letters, "a=1; Domain=AZMN.B"));
        CookieJar jar = Calls.jarAt("http://co.uk");
        Calls.suffix(jar, "co.uk");
        Calls.due("9 public and the host", 1, () -> Calls.receive(jar, "a=1; Domain=.CO.UK"));
        Calls.due("9 is host-only", true, jar.isHostOnly(0));
        Calls.due("9 of the host", "co.uk", Calls.domain(jar, 0));
    }

    private static void path(String address, String cookie, String path) {
        CookieJar jar = Calls.jarAt(address);
        Calls.due("9 " + cookie, 1, () -> Calls.receive(jar, cookie));
        Calls.due("9 path of " + cookie + " at " + address, path, Calls.path(jar, 0));
    }

    private static void paths() {
        path("http://a", "a=1", "/");
        path("http://a/", "a=1", "/");
        path("http://a/x", "a=1", "/");
        path("http://a/x/", "a=1", "/x");
        path("http://a/x/y", "a=1", "/x");
        path("http://a/x/y?/z/", "a=1", "/x");
        path("http://a//", "a=1", "/");
        path("http://a///", "a=1", "//");
        path("http://a/x", "a=1; Path=/q", "/q");
        path("http://a/x", "a=1; pATH=/Q/", "/Q/");
        path("http://a/x/y", "a=1; Path=q", "/x");
        path("http://a/x/y", "a=1; Path=", "/x");
        path("http://a/x/y", "a=1; Path", "/x");
        path("http://a/x/y", "a=1; Path=/?=#", "/?=#");
        String most = "/abcdefghijabcdefghijabcdefghijabcdefghi";
        path("http://a/x/y", "a=1; Path=" + most, most);
        path("http://a/x/y", "a=1; Path=" + most + "j", "/x");
        path("http://a/x/y", "a=1; Path=/q; Path=" + most + "j", "/q");
    }

    private static void flags(String cookie, boolean secure, boolean httpOnly, int sameSite, int priority) {
        CookieJar jar = jarWith(cookie);
        Calls.due("9 secure of " + cookie, secure, jar.isSecure(0));
        Calls.due("9 http-only of " + cookie, httpOnly, jar.isHttpOnly(0));
        Calls.due("9 same-site of " + cookie, sameSite, () -> jar.sameSite(0));
        Calls.due("9 priority of " + cookie, priority, () -> jar.priority(0));
    }

    private static void flags() {
        flags("a=1", false, false, 1, 1);
        flags("a=1; Secure; HttpOnly", true, true, 1, 1);
        flags("a=1;SECURE=no;  httponly = x", true, true, 1, 1);
        flags("a=1; Secured; Http-Only", false, false, 1, 1);
        flags("Secure=1; a", false, false, 1, 1);
        flags("a=1; SameSite=Strict; Priority=Low", false, false, 2, 0);
        flags("a=1; samesite=LAX; priority=HIGH", false, false, 1, 2);
        flags("a=1; Secure; SameSite=nOnE; Priority=mediuM", true, false, 0, 1);
        flags("a=1; SameSite=Strict; SameSite=x; Priority=Low; Priority=", false, false, 2, 0);
        flags("a=1; SameSite=laxer; Priority=lo", false, false, 1, 1);
    }

    private static void expiry(long now, String attributes, long want) {
        CookieJar jar = Calls.jarAt("https://x.a.b/p/q");
        for (long left = now; left > 0; left -= Math.min(left, Integer.MAX_VALUE)) {
            jar.advance((int) Math.min(left, Integer.MAX_VALUE));
        }
        Calls.due("9 a=1; " + attributes, want == 0 ? 0 : 1, () -> Calls.receive(jar, "a=1; " + attributes));
        Calls.due("9 expired", want == 0 ? 1 : 0, () -> jar.count(6));
        if (want != 0) {
            Calls.due("9 expiry of " + attributes, want, () -> jar.expiry(0));
        }
    }

    private static void ages() {
        expiry(100, "", -1);
        expiry(100, "Max-Age=1", 101);
        expiry(100, "MAX-AGE = 000000060", 160);
        expiry(100, "Max-Age=0", 0);
        expiry(100, "Max-Age=-0", 0);
        expiry(100, "Max-Age=-1", 0);
        expiry(100, "Max-Age=-999999999", 0);
        expiry(100, "Max-Age=34559999", 100 + LONGEST - 1);
        expiry(100, "Max-Age=34560000", 100 + LONGEST);
        expiry(100, "Max-Age=34560001", 100 + LONGEST);
        expiry(100, "Max-Age=999999999", 100 + LONGEST);
        expiry(5000000000L, "Max-Age=999999999", 5000000000L + LONGEST);
        String[] wrong = {"", "-", "+1", "1.0", "1000000000", "0000000001", "-1000000000", "1 0", "x", "0x1", "--1"};
        for (String age : wrong) {
            expiry(100, "Max-Age=" + age, -1);
        }
        expiry(100, "Max-Age", -1);
    }

    private static void dates() {
        expiry(0, "Expires=01 Jan 1970 00:00:01", 1);
        expiry(0, "Expires=01 Jan 1970 00:00:00", 0);
        expiry(59, "Expires=01 Jan 1970 00:01:00", 60);
        expiry(60, "Expires=01 Jan 1970 00:01:00", 0);
        expiry(61, "Expires=01 Jan 1970 00:01:00", 0);
        expiry(0, "Expires=01 Jan 1970 01:00:00", 3600);
        expiry(0, "Expires=01 Feb 1970 23:59:59", 31 * 86400 + 86399);
        expiry(0, "eXPIRES =  28 Feb 1970 00:00:00  ", 58 * 86400);
        expiry(0, "Expires=01 Mar 1970 00:00:00", 59 * 86400);
        expiry(0, "Expires=31 Dec 1970 23:59:59", 31535999);
        expiry(0, "Expires=04 Feb 1971 23:59:59", LONGEST - 1);
        expiry(0, "Expires=05 Feb 1971 00:00:00", LONGEST);
        expiry(0, "Expires=05 Feb 1971 00:00:01", LONGEST);
        expiry(0, "Expires=31 Dec 9999 23:59:59", LONGEST);
        expiry(951700000, "Expires=29 Feb 2000 12:00:00", 951825600);
        expiry(951700000, "Expires=01 Mar 2000 00:00:00", 951868800);
        expiry(1938700000, "Expires=09 Jun 2031 10:18:14", 1938766694);
        expiry(4107456000L, "Expires=28 Feb 2100 00:00:00", 0);
        expiry(4107455999L, "Expires=28 Feb 2100 00:00:00", 4107456000L);
        expiry(4107400000L, "Expires=01 Mar 2100 00:00:00", 4107542400L);
        expiry(978300000, "Expires=01 Jan 2001 00:00:00", 978307200);
        expiry(4133900000L, "Expires=01 Jan 2101 00:00:00", 4133980800L);
        expiry(13569460000L, "Expires=01 Jan 2400 00:00:00", 13569465600L);
        expiry(13601080000L, "Expires=01 Jan 2401 00:00:00", 13601088000L);
        expiry(63000000, "Expires=01 Jan 1972 00:00:00", 63072000);
        expiry(94600000, "Expires=01 Jan 1973 00:00:00", 94694400);
        expiry(67900000, "Expires=29 Feb 1972 00:00:00", 68169600);
        String[] months = {"Jan", "Feb", "Mar", "Apr", "May", "Jun", "Jul", "Aug", "Sep", "Oct", "Nov", "Dec"};
        int[] firsts = {0, 31, 59, 90, 120, 151, 181, 212, 243, 273, 304, 334};
        int[] lasts = {31, 28, 31, 30, 31, 30, 31, 31, 30, 31, 30, 31};
        for (int m = 0; m < 12; m++) {
            expiry(0, "Expires=02 " + months[m] + " 1970 00:00:00", (firsts[m] + 1) * 86400L);
            expiry(0, "Expires=" + lasts[m] + " " + months[m] + " 1970 00:00:00", (firsts[m] + lasts[m] - 1) * 86400L);
            expiry(0, "Expires=" + (lasts[m] + 1) + " " + months[m] + " 1970 00:00:00", -1);
        }
    }

    /** Attributes that are ignored, so that the cookie is one of the session. */
    private static void datesThatAreNone() {
        String[] wrong = {
            "", "x", "00 Jan 1971 00:00:00", "32 Jan 1971 00:00:00", "29 Feb 1971 00:00:00", "29 Feb 2100 00:00:00",
            "30 Feb 1972 00:00:00", "31 Apr 1971 00:00:00", "01 jan 1971 00:00:00", "01 JAN 1971 00:00:00",
            "01 Foo 1971 00:00:00", "01 anF 1971 00:00:00", "01 Jan 1969 00:00:00", "01 Jan 0000 00:00:00",
            "01 Jan 71 00:00:00", "01 Jan 1971 24:00:00", "01 Jan 1971 00:60:00", "01 Jan 1971 00:00:60",
            "1 Jan 1971 00:00:00", " 1 Jan 1971 00:00:00", "01  Jan 1971 00:00:00", "01 Jan 1971 0:00:00",
            "01-Jan-1971 00:00:00", "01 Jan-1971 00:00:00", "01 Jan 1971-00:00:00", "01 Jan 1971 00.00:00",
            "01 Jan 1971 00:00.00", "01 Jan 1971 00:00:00 GMT", "Fri, 01 Jan 1971 00:00:00", "01 Jan 1971 00:00:0x",
            "01 Jan 1971 00:x0:00", "01 Jan 1971 x0:00:00", "01 Jan 197x 00:00:00", "x1 Jan 1971 00:00:00",
            "01 Jan 1971 00:00", "01 Jan 1971 00:00:000", "-1 Jan 1971 00:00:00", "01 Jan 1971 -1:00:00"};
        for (String date : wrong) {
            expiry(0, "Expires=" + date, -1);
        }
        expiry(951700000, "Expires=29 Feb 2001 12:00:00", -1);
    }

    private static void ageBeforeDate() {
        expiry(0, "Max-Age=5; Expires=01 Jan 1970 00:00:09", 5);
        expiry(0, "Expires=01 Jan 1970 00:00:09; Max-Age=5", 5);
        expiry(0, "Expires=01 Jan 1970 00:00:09; Max-Age=0", 0);
        expiry(9, "Expires=01 Jan 1970 00:00:09; Max-Age=5", 14);
        expiry(0, "Expires=01 Jan 1970 00:00:09; Max-Age=x", 9);
    }

    private static void lastOneCounts() {
        expiry(0, "Max-Age=5; Max-Age=7; Max-Age=x", 7);
        expiry(0, "Max-Age=0; Max-Age=7", 7);
        expiry(0, "Max-Age=7; Max-Age=0", 0);
        expiry(0, "Expires=01 Jan 1970 00:00:09; Expires=01 Jan 1970 00:00:08; Expires=no", 8);
        CookieJar jar = jarWith("a=1; Domain=c.d; Domain=a.b; Path=/1; Path=/2; SameSite=Lax; SameSite=Strict;"
                + "Priority=Low; Priority=High");
        Calls.due("9 last domain", "a.b", Calls.domain(jar, 0));
        Calls.due("9 last path", "/2", Calls.path(jar, 0));
        Calls.due("9 last same-site", 2, () -> jar.sameSite(0));
        Calls.due("9 last priority", 2, () -> jar.priority(0));
    }

    private static void rejected(CookieJar jar, String cookie, boolean script, int cause) {
        int size = jar.cookies();
        int before = jar.count(5);
        Calls.due("9 " + cookie, 0, () -> Calls.receive(jar, cookie, script));
        Calls.due("10 cause of " + cookie, cause, () -> jar.rejection(1));
        Calls.due("10 its first digit", cause / 10, () -> jar.rejection(0));
        Calls.due("9 nothing created by " + cookie, size, jar::cookies);
        Calls.due("38 counted", before + 1, () -> jar.count(5));
    }

    private static void taken(CookieJar jar, String cookie, boolean script, int answer) {
        Calls.due("9 " + cookie, answer, () -> Calls.receive(jar, cookie, script));
        Calls.due("10 no cause of " + cookie, 0, () -> jar.rejection(1));
        Calls.due("10 nor a first digit", 0, () -> jar.rejection(0));
    }

    private static void causesOfText() {
        CookieJar jar = Calls.jarAt("https://a.b");
        rejected(jar, "", false, 11);
        rejected(jar, "a", false, 11);
        rejected(jar, "; a=1", false, 11);
        rejected(jar, "Secure; Path=/", false, 11);
        rejected(jar, "=", false, 12);
        rejected(jar, "=1", false, 12);
        rejected(jar, "   =1", false, 12);
        rejected(jar, "seventeen-letters=1", false, 13);
        rejected(jar, "a=thirty-three-letters-is-one-over-", false, 13);
        taken(jar, " sixteen-letters-  =  thirty-two-letters-is-the-most--  ", false, 1);
    }

    private static void causesOfDomain() {
        CookieJar jar = Calls.jarAt("https://x.a.b");
        rejected(jar, "a=1; Domain=b", false, 21);
        rejected(jar, "a=1; Domain=.B", false, 21);
        rejected(jar, "a=1; Domain=c", false, 21);
        rejected(jar, "a=1; Domain=c.b", false, 22);
        rejected(jar, "a=1; Domain=y.x.a.b", false, 22);
        rejected(jar, "a=1; Domain=xx.a.b", false, 22);
        rejected(jar, "a=1; Domain=..", false, 22);
        rejected(jar, "a=1; Domain=..a.b", false, 22);
        rejected(jar, "a=1; Domain=. a.b", false, 22);
        rejected(jar, "a=1; Domain=a.b.", false, 22);
        rejected(jar, "a=1; Domain=a_b", false, 22);
        rejected(jar, "a=1; Domain=https://x.a.b", false, 22);
        rejected(jar, "a=1; Domain=abcdefghijabcdefghijabcdefghijk", false, 22);
        taken(jar, "a=1; Domain=a.b", false, 1);
        Calls.suffix(jar, "a.b");
        rejected(jar, "a=1; Domain=a.b", false, 21);
        taken(jar, "a=1; Domain=x.a.b", false, 1);
        CookieJar part = Calls.jarAt("http://xa.bc");
        rejected(part, "a=1; Domain=a.bc", false, 22);
    }

    private static void causesOfSecureAndScript() {
        CookieJar plain = Calls.jarAt("http://a.b");
        rejected(plain, "a=1; Secure", false, 31);
        rejected(plain, "a=1; Secure; HttpOnly", true, 31);
        rejected(plain, "a=1; HttpOnly", true, 61);
        taken(plain, "a=1; HttpOnly", false, 1);
        rejected(plain, "a=1; SameSite=None", false, 51);
        CookieJar jar = Calls.jarAt("https://a.b");
        taken(jar, "a=1; Secure; SameSite=None", false, 1);
        rejected(jar, "b=1; SameSite=None", false, 51);
        rejected(jar, "a=1; HttpOnly", true, 61);
        taken(jar, "h=1; HttpOnly", false, 1);
        rejected(jar, "h=2", true, 62);
        rejected(jar, "h=2; Max-Age=0", true, 62);
        taken(jar, "h=2; Path=/other", true, 1);
        taken(jar, "h=2; Domain=a.b", true, 1);
        taken(jar, "h=2", false, 2);
        taken(jar, "h=3", true, 2);
    }

    private static void causeOfSecureCookieInJar() {
        CookieJar jar = Calls.jarAt("https://x.a.b/p");
        taken(jar, "s=1; Secure; Path=/p; Domain=x.a.b", false, 1);
        taken(jar, "s=1; Path=/p", false, 1);
        jar.remove(1);
        Calls.request(jar, "http://x.a.b/");
        rejected(jar, "s=2; Path=/p", false, 32);
        rejected(jar, "s=2; Path=/p/q; Max-Age=0", false, 32);
        rejected(jar, "s=2; Path=/p; Domain=a.b", false, 32);
        rejected(jar, "s=2; Path=/p; SameSite=None", false, 32);
        taken(jar, "s=2; Path=/", false, 1);
        taken(jar, "s=2; Path=/pq", false, 1);
        taken(jar, "S=2; Path=/p", false, 1);
        taken(jar, "t=2; Path=/p", false, 1);
        Calls.request(jar, "http://y.x.a.b/");
        rejected(jar, "s=2; Path=/p", false, 32);
        Calls.request(jar, "http://y.a.b/");
        taken(jar, "s=2; Path=/p", false, 1);
        Calls.request(jar, "http://a.b/");
        rejected(jar, "s=2; Path=/p", false, 32);
        Calls.request(jar, "https://a.b/");
        taken(jar, "s=2; Path=/p", false, 1);
        CookieJar last = Calls.jarAt("https://a.b/");
        taken(last, "s=1; Secure", false, 1);
        last.remove(0);
        Calls.request(last, "http://a.b/");
        taken(last, "s=1", false, 1);
    }

    private static void causesOfPrefixes() {
        CookieJar jar = Calls.jarAt("https://a.b/x/y");
        rejected(jar, "__Secure-a=1", false, 41);
        rejected(jar, "__Secure-=1", false, 41);
        rejected(jar, "__Host-a=1; Path=/", false, 42);
        rejected(jar, "__Host-a=1; Secure", false, 42);
        rejected(jar, "__Host-a=1; Secure; Path=/; Domain=a.b", false, 42);
        rejected(jar, "__Host-=1", false, 42);
        taken(jar, "__Secure-a=1; Secure; Domain=a.b", false, 1);
        taken(jar, "__Host-a=1; Secure; Path=/", false, 1);
        taken(jar, "__secure-a=1", false, 1);
        taken(jar, "__host-a=1", false, 1);
        taken(jar, "__Hosta=1", false, 1);
        CookieJar plain = Calls.jarAt("http://a.b/");
        rejected(plain, "__Host-a=1; Secure", false, 31);
        rejected(plain, "__Host-a=1", false, 42);
    }

    private static void firstCauseCounts() {
        CookieJar jar = Calls.jarAt("https://x.a.b/");
        taken(jar, "__Secure-s=1; Secure; HttpOnly", false, 1);
        rejected(jar, "seventeen-letters; Domain=b", true, 11);
        rejected(jar, "=thirty-three-letters-is-one-over-", true, 12);
        rejected(jar, "seventeen-letters=1; Domain=b", true, 13);
        rejected(jar, "__Secure-s=1; SameSite=None", true, 51);
        rejected(jar, "__Secure-s=1", true, 41);
        Calls.request(jar, "http://x.a.b/");
        rejected(jar, "__Secure-s=1; Domain=b; Secure", true, 21);
        rejected(jar, "__Secure-s=1; Domain=c.d; Secure", true, 22);
        rejected(jar, "__Secure-s=1; Secure; HttpOnly", true, 31);
        rejected(jar, "__Secure-s=1; HttpOnly; SameSite=None", true, 61);
        rejected(jar, "__Secure-s=1; SameSite=None", true, 32);
    }

    private static void rejection() {
        CookieJar jar = new CookieJar();
        Calls.due("10 no call yet", 0, () -> jar.rejection(0));
        Calls.due("10 no call yet", 0, () -> jar.rejection(1));
        for (int depth : new int[] {-1, 2, 10, Integer.MAX_VALUE, Integer.MIN_VALUE}) {
            Calls.due("10 rejection(" + depth + ")", Calls.BAD_INDEX, () -> jar.rejection(depth));
        }
        Calls.request(jar, "http://a.b");
        rejected(jar, "a=1; Domain=b", false, 21);
        taken(jar, "a=1; Max-Age=0", false, 0);
        rejected(jar, "a=1; Secure", false, 31);
        jar.send(false, false);
        Calls.due("10 stays over other calls", 31, () -> jar.rejection(1));
        taken(jar, "a=1", false, 1);
        rejected(jar, "", false, 11);
        taken(jar, "a=1; Max-Age=0", false, 3);
    }

    private static void evictsBySite() {
        CookieJar jar = Calls.jarAt("https://a.b");
        for (char name = 'a'; name <= 'e'; name++) {
            String cookie = name + "=1";
            Calls.due("9 " + cookie, 1, () -> Calls.receive(jar, cookie));
        }
        Calls.due("9 five of a site", 5, jar::cookies);
        Calls.request(jar, "https://x.a.b");
        Calls.due("9 a sixth, of another domain", 1, () -> Calls.receive(jar, "f=1"));
        Calls.due("9 the smallest serial went", "b c d e f", Calls.names(jar));
        Calls.due("38 evicted", 1, () -> jar.count(4));
        Calls.request(jar, "https://c.b");
        Calls.due("9 of another site", 1, () -> Calls.receive(jar, "g=1"));
        Calls.due("9 none went", 6, jar::cookies);
        jar.setLimit(0, 2);
        Calls.due("9 of another site still", 2, () -> Calls.receive(jar, "g=2"));
        Calls.due("9 none went then", 6, jar::cookies);
        Calls.request(jar, "https://a.b");
        Calls.due("9 a replaced one lets others go", 2, () -> Calls.receive(jar, "b=2; Priority=Low"));
        Calls.due("9 but not itself", "b f g", Calls.names(jar));
        Calls.due("38 evicted", 4, () -> jar.count(4));
        jar.setLimit(0, 1);
        Calls.due("9 one of a site", 1, () -> Calls.receive(jar, "z=1; Priority=Low"));
        Calls.due("9 is the new one", "z g", Calls.names(jar));
    }

    private static void evictsByAll() {
        CookieJar jar = Calls.jarAt("https://a.b");
        Calls.receive(jar, "a=1; Priority=High");
        Calls.receive(jar, "b=1");
        jar.setLimit(1, 2);
        Calls.request(jar, "https://c.d");
        Calls.due("9 a third", 1, () -> Calls.receive(jar, "c=1; Priority=Low"));
        Calls.due("9 one of another site went", "a c", Calls.names(jar));
        Calls.due("9 a rejected one evicts none", 0, () -> Calls.receive(jar, "="));
        jar.setLimit(1, 1);
        Calls.due("9 an ignored one evicts none", 0, () -> Calls.receive(jar, "d=1; Max-Age=0"));
        Calls.due("9 so there are two", 2, jar::cookies);
        Calls.due("9 replaced", 2, () -> Calls.receive(jar, "c=2"));
        Calls.due("9 only the new one stays", "c", Calls.names(jar));

        CookieJar full = Calls.jarAt("https://a.b");
        full.setLimit(0, 40);
        full.setLimit(1, 40);
        for (int n = 0; n < 45; n++) {
            int k = n;
            Calls.due("9 cookie " + n, 1, () -> Calls.receive(full, "n" + k + "=1"));
            Calls.due("9 size", Math.min(n + 1, 40), full::cookies);
        }
        Calls.due("38 evicted", 5, () -> full.count(4));
        Calls.due("22 the next serial", 44, () -> full.serial(full.victim()) + 39);
        Calls.due("11 all forty go", 40, () -> full.send(false, false));
    }
}
