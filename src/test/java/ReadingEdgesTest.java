import java.time.LocalDate;
import java.time.ZoneOffset;

/** Edges of "Reading a cookie", up to the cookie that results (promise 9), sentence by sentence. */
public final class ReadingEdgesTest {
    private static final long LONGEST = 34560000;
    private static final String FORTY = "/abcdefghijabcdefghijabcdefghijabcdefghi";
    private static final String[] MONTHS = {
        "Jan", "Feb", "Mar", "Apr", "May", "Jun", "Jul", "Aug", "Sep", "Oct", "Nov", "Dec"};

    public static void main(String[] args) {
        parts();
        firstPart();
        namesAndValues();
        attributesWithAndWithoutSign();
        letters();
        otherNames();
        otherValues();
        lastOneCounts();
        formOfDates();
        monthsOfDates();
        numbersOfDates();
        daysOfDates();
        ages();
        domains();
        paths();
        flags();
        sameSites();
        priorities();
        whoseDomain();
        defaultPaths();
        withoutAttributes();
        ageAbove0();
        ageOf0OrLess();
        dateLater();
        dateNotLater();
        ageCountsBeforeDate();
        session();
        Calls.end();
    }

    /** A jar with this one cookie, received for "https://x.a.b/p/q". */
    private static CookieJar jarWith(String cookie) {
        CookieJar jar = Calls.jarAt("https://x.a.b/p/q");
        Calls.due("9 \"" + cookie + "\"", 1, () -> Calls.receive(jar, cookie));
        return jar;
    }

    private static void pair(String cookie, String name, String value) {
        CookieJar jar = jarWith(cookie);
        Calls.due("15 name of \"" + cookie + "\"", name, Calls.name(jar, 0));
        Calls.due("16 value of \"" + cookie + "\"", value, Calls.value(jar, 0));
    }

    private static void flags(String cookie, boolean secure, boolean httpOnly) {
        CookieJar jar = jarWith(cookie);
        Calls.due("24 secure of \"" + cookie + "\"", secure, jar.isSecure(0));
        Calls.due("25 http-only of \"" + cookie + "\"", httpOnly, jar.isHttpOnly(0));
    }

    private static void rejected(String cookie, int cause) {
        CookieJar jar = Calls.jarAt("https://x.a.b/p/q");
        Calls.due("9 \"" + cookie + "\"", 0, () -> Calls.receive(jar, cookie));
        Calls.due("10 cause of \"" + cookie + "\"", cause, () -> jar.rejection(1));
        Calls.due("14 none is there", 0, jar::cookies);
    }

    private static void path(String cookie, String want) {
        Calls.due("18 path of \"" + cookie + "\"", want, Calls.path(jarWith(cookie), 0));
    }

    private static void domain(String cookie, String want, boolean hostOnly) {
        CookieJar jar = jarWith(cookie);
        Calls.due("17 domain of \"" + cookie + "\"", want, Calls.domain(jar, 0));
        Calls.due("23 host-only of \"" + cookie + "\"", hostOnly, jar.isHostOnly(0));
    }

    private static void sameSite(String cookie, int want) {
        CookieJar jar = jarWith(cookie);
        Calls.due("26 same-site of \"" + cookie + "\"", want, () -> jar.sameSite(0));
    }

    private static void priority(String cookie, int want) {
        CookieJar jar = jarWith(cookie);
        Calls.due("27 priority of \"" + cookie + "\"", want, () -> jar.priority(0));
    }

    /** The expiry of a cookie that is received at a time; 0 if it is expired, -1 if it is one of the session. */
    private static void expiry(long now, String attributes, long want) {
        CookieJar jar = Calls.jarAt("https://x.a.b/p/q");
        Calls.advanceTo(jar, now);
        Calls.due("9 \"" + attributes + "\"", want == 0 ? 0 : 1, () -> Calls.receive(jar, "a=1;" + attributes));
        Calls.due("38 expired \"" + attributes + "\"", want == 0 ? 1 : 0, () -> jar.count(6));
        if (want != 0) {
            Calls.due("19 expiry of \"" + attributes + "\"", want, () -> jar.expiry(0));
        }
    }

    private static void parts() {
        Calls.sentence("It is split at all semicolons into parts.");
        pair("a=1;", "a", "1");
        pair("a=1;;", "a", "1");
        pair("a=1; ;  ; ", "a", "1");
        pair("a=1;b=2;c=3", "a", "1");
        pair("a=\"1;2\"", "a", "\"1");
        pair("a=;=;=", "a", "");
        flags("a=1;Secure;HttpOnly", true, true);
        flags("a=1;HttpOnly;Secure", true, true);
        flags("a=1;;;Secure;;HttpOnly;;", true, true);
        flags("a=1;Secure;", true, false);
        flags("a=1;x;Secure;y;HttpOnly", true, true);
        flags("a=Secure;b=Secure", false, false);
        flags("a=1,Secure", false, false);
        flags("a=1;Secure,HttpOnly", false, false);
        flags("a=\"1;Secure;\"", true, false);
        Calls.due("16 at the first one", "", Calls.value(jarWith("a=;b"), 0));
    }

    private static void firstPart() {
        Calls.sentence("The first part must contain \"=\"");
        rejected("", 11);
        rejected(" ", 11);
        rejected(";", 11);
        rejected("a", 11);
        rejected("a;", 11);
        rejected(";a=1", 11);
        rejected(" ;a=1", 11);
        rejected("a;b=1", 11);
        rejected("Secure;a=1", 11);
        rejected("a:1", 11);
    }

    private static void namesAndValues() {
        Calls.sentence("the name is what is before its first \"=\", trimmed, the value what is after it, trimmed");
        pair("a=", "a", "");
        pair("a==", "a", "=");
        pair("a= =", "a", "=");
        pair("a=b=c", "a", "b=c");
        pair("a=b=", "a", "b=");
        pair("  a  =  b  ", "a", "b");
        pair("a a=b b", "a a", "b b");
        pair("a =", "a", "");
        pair("A=B", "A", "B");
        pair("Secure=1", "Secure", "1");
        rejected("=", 12);
        rejected("==", 12);
        rejected("=a=b", 12);
        rejected("   =a", 12);
    }

    private static void attributesWithAndWithoutSign() {
        Calls.sentence("its name is what is before its first \"=\", trimmed, its value what is after it, trimmed");
        path("a=1;Path=/z", "/z");
        path("a=1;  Path  =  /z  ", "/z");
        path("a=1;Path=/z=y", "/z=y");
        path("a=1;Path==/z", "/p");
        path("a=1;Path=/=", "/=");
        path("a=1;Path=/z z", "/z z");
        path("a=1;Pa th=/z", "/p");
        path("a=1;=Path=/z", "/p");
        flags("a=1; Secure =; HttpOnly = ", true, true);
        Calls.sentence("without \"=\", the name is the whole part, trimmed, and the value is empty");
        flags("a=1;Secure;HttpOnly", true, true);
        flags("a=1;   Secure   ;   HttpOnly   ", true, true);
        flags("a=1;Secure HttpOnly", false, false);
        path("a=1;Path", "/p");
        path("a=1;Path /z", "/p");
        domain("a=1;Domain", "x.a.b", true);
        sameSite("a=1;SameSite", 1);
        priority("a=1;Priority", 1);
        expiry(5, "Max-Age", -1);
        expiry(5, "Expires", -1);
    }

    private static void letters() {
        Calls.sentence("In the names of attributes, and in the values of Domain, SameSite and Priority, the letters A to "
                + "Z count as a to z.");
        for (String secure : new String[] {"secure", "SECURE", "sECURE", "SecurE", "sEcUrE"}) {
            flags("a=1;" + secure, true, false);
        }
        for (String http : new String[] {"httponly", "HTTPONLY", "hTTPoNLY", "HttpOnly"}) {
            flags("a=1;" + http, false, true);
        }
        path("a=1;PATH=/z", "/z");
        path("a=1;path=/Z", "/Z");
        expiry(5, "MAX-AGE=1", 6);
        expiry(5, "max-age=1", 6);
        expiry(5, "EXPIRES=01 Jan 1970 00:00:09", 9);
        expiry(5, "expires=01 Jan 1970 00:00:09", 9);
        domain("a=1;DOMAIN=A.B", "a.b", false);
        domain("a=1;domain=X.a.B", "x.a.b", false);
        sameSite("a=1;SAMESITE=STRICT", 2);
        sameSite("a=1;samesite=sTrIcT", 2);
        sameSite("a=1;Secure;SameSite=NONE", 0);
        priority("a=1;PRIORITY=LOW", 0);
        priority("a=1;priority=hIGH", 2);
        CookieJar all = Calls.jarAt("http://abcdefghijklm.nopqrstuvwxyz");
        Calls.due("9 every letter", 1, () -> Calls.receive(all, "a=1;Domain=ABCDEFGHIJKLM.NOPQRSTUVWXYZ"));
        Calls.due("17 is small", "abcdefghijklm.nopqrstuvwxyz", Calls.domain(all, 0));
        rejected("a=1;Domain=@.b", 22);
        rejected("a=1;Domain=[.b", 22);
        CookieJar jar = jarWith("a=1");
        Calls.due("9 not in names of cookies", 1, () -> Calls.receive(jar, "A=X"));
        Calls.due("16 nor in values", "X", Calls.value(jar, 0));
    }

    private static void otherNames() {
        Calls.sentence("Attributes with other names than the following are ignored");
        flags("a=1;Secur;HttpOnl", false, false);
        flags("a=1;Securee;HttpOnlyy", false, false);
        flags("a=1;xSecure;Http-Only", false, false);
        flags("a=1;Sec ure;Http Only", false, false);
        flags("a=1;\"Secure\"", false, false);
        path("a=1;Paths=/z;Pat=/z", "/p");
        domain("a=1;Domains=a.b;Domai=a.b", "x.a.b", true);
        sameSite("a=1;Same-Site=Strict;SameSit=Strict;SameSites=Strict", 1);
        priority("a=1;Priorit=Low;Prioritys=Low", 1);
        expiry(5, "MaxAge=1;Max-Ag=1;Max-Ages=1;Max Age=1", -1);
        expiry(5, "Expire=01 Jan 1970 00:00:09;Expiress=01 Jan 1970 00:00:09", -1);
        flags("a=1;;=;=x; = ", false, false);
    }

    private static void otherValues() {
        Calls.sentence("and so are those whose values are not as described");
        expiry(5, "Max-Age=9;Max-Age=x", 14);
        expiry(5, "Max-Age=0;Max-Age=", 0);
        expiry(5, "Expires=01 Jan 1970 00:00:09;Expires=x", 9);
        domain("a=1;Domain=a.b;Domain=", "a.b", false);
        domain("a=1;Domain=a.b;Domain=.", "a.b", false);
        path("a=1;Path=/z;Path=", "/z");
        path("a=1;Path=/z;Path=z", "/z");
        path("a=1;Path=/z;Path=" + FORTY + "x", "/z");
        sameSite("a=1;SameSite=Strict;SameSite=x", 2);
        priority("a=1;Priority=High;Priority=x", 2);
    }

    private static void lastOneCounts() {
        Calls.sentence("of several attributes with the same name that are not ignored the last one counts");
        expiry(5, "Max-Age=1;Max-Age=2", 7);
        expiry(5, "Max-Age=2;Max-Age=1;max-age=", 6);
        expiry(5, "Max-Age=2;MAX-AGE=0", 0);
        expiry(5, "Max-Age=-1;Max-Age=3;Max-Age=1234567890", 8);
        expiry(5, "Expires=01 Jan 1970 00:00:09;Expires=01 Jan 1970 00:00:08", 8);
        expiry(5, "Expires=01 Jan 1970 00:00:09;Expires=01 Jan 1970 00:00:02", 0);
        expiry(5, "Expires=01 Jan 1970 00:00:02;expires=01 Jan 1970 00:00:09;Expires=01 jan 1970 00:00:07", 9);
        domain("a=1;Domain=c.d;Domain=a.b", "a.b", false);
        domain("a=1;Domain=a.b;domain=x.a.b;Domain=.;Domain=", "x.a.b", false);
        rejected("a=1;Domain=a.b;Domain=c.d", 22);
        rejected("a=1;Domain=a.b;Domain=b", 21);
        path("a=1;Path=/1;Path=/2", "/2");
        path("a=1;Path=/1;path=/;Path=x;Path", "/");
        path("a=1;Path=/11;Path=/2", "/2");
        sameSite("a=1;SameSite=Strict;SameSite=Lax", 1);
        sameSite("a=1;SameSite=Lax;SameSite=Strict;SameSite=x", 2);
        sameSite("a=1;Secure;SameSite=Strict;SameSite=None;SameSite=", 0);
        priority("a=1;Priority=High;Priority=Medium", 1);
        priority("a=1;Priority=Medium;Priority=High;Priority=x", 2);
        priority("a=1;Priority=High;Priority=Low;Priority", 0);
        flags("a=1;Secure=1;Secure=0;HttpOnly=1;HttpOnly=", true, true);
    }

    private static void formOfDates() {
        Calls.sentence("a date of the form \"09 Jun 2031 10:18:14\"");
        String date = "09 Jun 2031 10:18:14";
        long now = 1938766000L;
        expiry(now, "Expires=" + date, 1938766694L);
        expiry(now, "Expires=  " + date + "  ", 1938766694L);
        Calls.sentence("with single blanks and colons as here");
        String digits = "0123456789";
        for (int at = 0; at < date.length(); at++) {
            String before = date.substring(0, at);
            String behind = date.substring(at + 1);
            boolean isDigit = digits.indexOf(date.charAt(at)) >= 0;
            for (char c : new char[] {'/', ':', 'x', '-', ' ', '.', '0', '~'}) {
                if (c != date.charAt(at) && !(isDigit && c == '0')) {
                    // what is trimmed away at the ends leaves a date that is too short
                    expiry(now, "Expires=" + before + c + behind, -1);
                }
            }
            expiry(now, "Expires=" + before + behind, -1);
            if (at > 0) {
                expiry(now, "Expires=" + before + " " + date.substring(at), -1);
            }
            expiry(now, "Expires=" + before + "0" + date.substring(at), -1);
        }
        expiry(now, "Expires=", -1);
        expiry(now, "Expires=" + date + " GMT", -1);
        expiry(now, "Expires=Mon, " + date, -1);
        expiry(now, "Expires=" + date + "=", -1);
        expiry(now, "Expires=\"" + date + "\"", -1);
    }

    private static void monthsOfDates() {
        Calls.sentence("month (Jan, Feb, Mar, Apr, May, Jun, Jul, Aug, Sep, Oct, Nov, Dec, exactly so)");
        int days = 0;
        int[] lengths = {31, 28, 31, 30, 31, 30, 31, 31, 30, 31, 30, 31};
        for (int m = 0; m < 12; m++) {
            String month = MONTHS[m];
            expiry(0, "Expires=02 " + month + " 1970 00:00:00", (days + 1) * 86400L);
            expiry(0, "Expires=02 " + month.toLowerCase() + " 1970 00:00:00", -1);
            expiry(0, "Expires=02 " + month.toUpperCase() + " 1970 00:00:00", -1);
            expiry(0, "Expires=02 " + month.substring(0, 2) + "x 1970 00:00:00", -1);
            expiry(0, "Expires=02 " + month.charAt(0) + "x" + month.charAt(2) + " 1970 00:00:00", -1);
            expiry(0, "Expires=02 x" + month.substring(1) + " 1970 00:00:00", -1);
            days += lengths[m];
        }
        // three signs of the months' names in a row that are no name
        for (String month : new String[] {"anF", "nFe", "ebM", "cJa", "   ", "001"}) {
            expiry(0, "Expires=02 " + month + " 1970 00:00:00", -1);
        }
        expiry(0, "Expires=02 xxx 0970 00:00:00", -1);
    }

    private static void numbersOfDates() {
        Calls.sentence("year (four digits, from 1970)");
        expiry(0, "Expires=01 Jan 1970 00:00:09", 9);
        expiry(0, "Expires=31 Dec 1969 23:59:59", -1);
        expiry(0, "Expires=01 Jan 1969 00:00:00", -1);
        expiry(0, "Expires=01 Jan 0000 00:00:00", -1);
        expiry(0, "Expires=01 Jan 0001 00:00:00", -1);
        expiry(0, "Expires=31 Dec 9999 23:59:59", LONGEST);
        expiry(0, "Expires=01 Jan 19700 00:00:09", -1);
        expiry(0, "Expires=01 Jan 970 00:00:09", -1);
        Calls.sentence("hours, minutes and seconds (two digits each, up to 23, 59 and 59)");
        expiry(0, "Expires=01 Jan 1970 23:00:00", 23 * 3600);
        expiry(0, "Expires=01 Jan 1970 24:00:00", -1);
        expiry(0, "Expires=01 Jan 1970 99:00:00", -1);
        expiry(0, "Expires=01 Jan 1970 00:59:00", 59 * 60);
        expiry(0, "Expires=01 Jan 1970 00:60:00", -1);
        expiry(0, "Expires=01 Jan 1970 00:99:00", -1);
        expiry(0, "Expires=01 Jan 1970 00:00:59", 59);
        expiry(0, "Expires=01 Jan 1970 00:00:60", -1);
        expiry(0, "Expires=01 Jan 1970 00:00:99", -1);
        expiry(0, "Expires=01 Jan 1970 23:59:59", 86399);
        expiry(0, "Expires=01 Jan 1970 01:01:01", 3661);
        expiry(0, "Expires=01 Jan 1970 1:01:01", -1);
        expiry(0, "Expires=01 Jan 1970 01:1:01", -1);
        expiry(0, "Expires=01 Jan 1970 01:01:1", -1);
        Calls.sentence("day (two digits)");
        expiry(0, "Expires=2 Jan 1970 00:00:00", -1);
        expiry(0, "Expires=002 Jan 1970 00:00:00", -1);
    }

    /** The first and the last day of each month of each year, and the days beside them. */
    private static void daysOfDates() {
        Calls.sentence("the day must exist in the Gregorian calendar");
        for (int year = 1970; year <= 2405; year++) {
            for (int month = 1; month <= 12; month++) {
                LocalDate first = LocalDate.of(year, month, 1);
                int last = first.lengthOfMonth();
                String rest = " " + MONTHS[month - 1] + " " + year + " 00:00:01";
                long time = first.toEpochSecond(java.time.LocalTime.of(0, 0, 1), ZoneOffset.UTC);
                expiry(Math.max(time - 9, 0), "Expires=01" + rest, time);
                expiry(time, "Expires=" + last + rest, time + (last - 1) * 86400L);
                expiry(time, "Expires=" + (last + 1) + rest, -1);
                expiry(time, "Expires=00" + rest, -1);
            }
        }
        for (String day : new String[] {"32", "40", "99"}) {
            expiry(0, "Expires=" + day + " Jan 1970 00:00:00", -1);
        }
        LocalDate end = LocalDate.of(9999, 12, 31);
        long time = end.toEpochSecond(java.time.LocalTime.of(23, 59, 59), ZoneOffset.UTC);
        CookieJar jar = Calls.jarAt("http://a.b");
        Calls.advanceTo(jar, time - 1);
        Calls.due("9 the last second of all", 1, () -> Calls.receive(jar, "a=1;Expires=31 Dec 9999 23:59:59"));
        Calls.due("19 its expiry", time, () -> jar.expiry(0));
        Calls.due("32 comes", 1, () -> jar.advance(1));
        Calls.due("9 and has come", 0, () -> Calls.receive(jar, "a=1;Expires=31 Dec 9999 23:59:59"));
    }

    private static void ages() {
        Calls.sentence("Max-Age: one to nine digits, or \"-\" and one to nine digits: a number of seconds.");
        expiry(5, "Max-Age=", -1);
        expiry(5, "Max-Age=1", 6);
        expiry(5, "Max-Age=9", 14);
        expiry(5, "Max-Age=12345678", 12345683);
        expiry(5, "Max-Age=000000001", 6);
        expiry(5, "Max-Age=0000000001", -1);
        expiry(5, "Max-Age=999999999", 5 + LONGEST);
        expiry(5, "Max-Age=1000000000", -1);
        expiry(5, "Max-Age=9999999999", -1);
        expiry(5, "Max-Age=4294967297", -1);
        expiry(5, "Max-Age=18446744073709551617", -1);
        expiry(5, "Max-Age=-", -1);
        expiry(5, "Max-Age=-1", 0);
        expiry(5, "Max-Age=-999999999", 0);
        expiry(5, "Max-Age=-000000000", 0);
        expiry(5, "Max-Age=-0000000000", -1);
        expiry(5, "Max-Age=-1000000000", -1);
        expiry(5, "Max-Age=-4294967295", -1);
        for (String age : new String[] {"+1", "--1", "-+1", "1-", "1-1", "1.0", "1e3", "1 0", "- 1", "0x1", "1,0", "one",
            "/", ":", "1/", "1:", "/1", ":1", "-/", "-:", "=1", "\"1\""}) {
            expiry(5, "Max-Age=" + age, -1);
        }
        for (int digit = 0; digit <= 9; digit++) {
            expiry(5, "Max-Age=1" + digit, 15 + digit);
        }
    }

    private static void domains() {
        Calls.sentence("Domain: any value that is not empty and not only a dot; a dot at its beginning is removed.");
        domain("a=1;Domain=", "x.a.b", true);
        domain("a=1;Domain=   ", "x.a.b", true);
        domain("a=1;Domain=.", "x.a.b", true);
        domain("a=1;Domain= . ", "x.a.b", true);
        domain("a=1;Domain=a.b", "a.b", false);
        domain("a=1;Domain=.a.b", "a.b", false);
        domain("a=1;Domain= .a.b ", "a.b", false);
        domain("a=1;Domain=.x.a.b", "x.a.b", false);
        rejected("a=1;Domain=..", 22);
        rejected("a=1;Domain=..a.b", 22);
        rejected("a=1;Domain=a.b.", 22);
        rejected("a=1;Domain=. a.b", 22);
        rejected("a=1;Domain=a. b", 22);
        rejected("a=1;Domain=-", 21);
        rejected("a=1;Domain=.b", 21);
        rejected("a=1;Domain=b", 21);
        rejected("a=1;Domain=" + "a".repeat(149), 22);
        rejected("a=1;Domain=.abcdefghijabcdefghijabcdefghijk", 22);
        rejected("a=1;Domain=.abcdefghijabcdefghijabcdefghij", 21);
        rejected("a=1;Domain=/", 22);
    }

    private static void paths() {
        Calls.sentence("Path: a value of 1 to 40 characters that begins with \"/\".");
        path("a=1;Path=", "/p");
        path("a=1;Path=/", "/");
        path("a=1;Path=z", "/p");
        path("a=1;Path=z/", "/p");
        path("a=1;Path= /z", "/z");
        path("a=1;Path=" + FORTY.substring(0, 39), FORTY.substring(0, 39));
        path("a=1;Path=" + FORTY, FORTY);
        path("a=1;Path=" + FORTY + "x", "/p");
        path("a=1;Path=" + FORTY + FORTY, "/p");
        path("a=1;Path=  " + FORTY + "  ", FORTY);
        path("a=1;Path=" + "x" + FORTY.substring(1), "/p");
        path("a=1;Path=/?q", "/?q");
        path("a=1;Path=.", "/p");
        path("a=1;Path=0", "/p");
        path("a=1;Path=//", "//");
        path("a=1;Path=" + "/".repeat(40), "/".repeat(40));
    }

    private static void flags() {
        Calls.sentence("Secure, HttpOnly: any value.");
        for (String value : new String[] {"", "=", "=x", "=false", "= 0 ", "==", "=" + "x".repeat(100)}) {
            flags("a=1;Secure" + value, true, false);
            flags("a=1;HttpOnly" + value, false, true);
        }
    }

    private static void sameSites() {
        Calls.sentence("SameSite: none, lax or strict.");
        sameSite("a=1;Secure;SameSite=none", 0);
        sameSite("a=1;SameSite=lax", 1);
        sameSite("a=1;SameSite=strict", 2);
        for (String wrong : new String[] {"", "non", "nonee", "la", "laxx", "stric", "strictt", "0", "2", "no ne",
            "none,", "\"strict\"", "default", "=strict"}) {
            sameSite("a=1;SameSite=" + wrong, 1);
            sameSite("a=1;SameSite=strict;SameSite=" + wrong, 2);
        }
    }

    private static void priorities() {
        Calls.sentence("Priority: low, medium or high.");
        priority("a=1;Priority=low", 0);
        priority("a=1;Priority=medium", 1);
        priority("a=1;Priority=high", 2);
        for (String wrong : new String[] {"", "lo", "loww", "mediu", "mediumm", "hig", "highh", "0", "2", "hi gh",
            "=high"}) {
            priority("a=1;Priority=" + wrong, 1);
            priority("a=1;Priority=high;Priority=" + wrong, 2);
            priority("a=1;Priority=low;Priority=" + wrong, 0);
        }
    }

    private static void whoseDomain(String host, String attribute, String suffix, String want, boolean hostOnly) {
        CookieJar jar = Calls.jarAt("http://" + host);
        if (!suffix.isEmpty()) {
            Calls.suffix(jar, suffix);
        }
        Calls.due("9 " + attribute + " by " + host, 1, () -> Calls.receive(jar, "a=1" + attribute));
        Calls.due("17 domain of " + attribute + " by " + host, want, Calls.domain(jar, 0));
        Calls.due("23 host-only of " + attribute + " by " + host, hostOnly, jar.isHostOnly(0));
    }

    private static void whoseDomain() {
        Calls.sentence("If there is a Domain attribute and its value d is not public, the domain is d, and the cookie is "
                + "not host-only.");
        whoseDomain("a.b", ";Domain=a.b", "", "a.b", false);
        whoseDomain("x.a.b", ";Domain=a.b", "", "a.b", false);
        whoseDomain("y.x.a.b", ";Domain=x.a.b", "a.b", "x.a.b", false);
        Calls.sentence("If there is none, or d is public and equal to the host of the request, the domain is the host, "
                + "and the cookie is host-only.");
        whoseDomain("a.b", "", "", "a.b", true);
        whoseDomain("b", "", "", "b", true);
        whoseDomain("b", ";Domain=b", "", "b", true);
        whoseDomain("b", ";Domain=.B", "", "b", true);
        whoseDomain("a.b", ";Domain=a.b", "a.b", "a.b", true);
        whoseDomain("x.a.b", ";Domain=x.a.b", "x.a.b", "x.a.b", true);
        whoseDomain("a.b", ";Domain=.", "", "a.b", true);
    }

    private static void defaultPath(String address, String want) {
        CookieJar jar = Calls.jarAt(address);
        Calls.due("9 at " + address, 1, () -> Calls.receive(jar, "a=1"));
        Calls.due("18 path at " + address, want, Calls.path(jar, 0));
    }

    private static void defaultPaths() {
        Calls.sentence("what is before the last \"/\" of the path of the request, or \"/\" if that is empty");
        defaultPath("http://a.b", "/");
        defaultPath("http://a.b/", "/");
        defaultPath("http://a.b/x", "/");
        defaultPath("http://a.b/xyz", "/");
        defaultPath("http://a.b/x/", "/x");
        defaultPath("http://a.b/x/y", "/x");
        defaultPath("http://a.b/x/y/", "/x/y");
        defaultPath("http://a.b/x/y/z", "/x/y");
        defaultPath("http://a.b//", "/");
        defaultPath("http://a.b//x", "/");
        defaultPath("http://a.b///", "//");
        defaultPath("http://a.b/x?/y/", "/");
        defaultPath("http://a.b" + FORTY, "/");
        defaultPath("http://a.b" + FORTY.substring(0, 39) + "/", FORTY.substring(0, 39));
        defaultPath("http://a.b" + FORTY.substring(0, 38) + "/x", FORTY.substring(0, 38));
        defaultPath("http://a.b/x" + FORTY.substring(0, 38), "/x");
        path("a=1;Path=/", "/");
    }

    private static void withoutAttributes() {
        Calls.sentence("Same-site is lax and priority is medium without an attribute.");
        sameSite("a=1", 1);
        priority("a=1", 1);
        Calls.sentence("Secure and http-only are as there are attributes.");
        flags("a=1", false, false);
        flags("a=1;Secure", true, false);
        flags("a=1;HttpOnly", false, true);
        // what one cookie says does not stay for the next one
        CookieJar jar = jarWith("a=1;Domain=a.b;Path=/z;Secure;HttpOnly;SameSite=None;Priority=High;Max-Age=9");
        Calls.due("9 the next one", 1, () -> Calls.receive(jar, "b=2"));
        Calls.due("17 domain", "x.a.b", Calls.domain(jar, 1));
        Calls.due("18 path", "/p", Calls.path(jar, 1));
        Calls.due("24 secure", false, jar.isSecure(1));
        Calls.due("25 http-only", false, jar.isHttpOnly(1));
        Calls.due("26 same-site", 1, () -> jar.sameSite(1));
        Calls.due("27 priority", 1, () -> jar.priority(1));
        Calls.due("19 expiry", -1, () -> jar.expiry(1));
        CookieJar dated = jarWith("a=1;Expires=01 Jan 1970 00:00:09");
        Calls.due("9 the next one", 1, () -> Calls.receive(dated, "b=2"));
        Calls.due("19 expiry", -1, () -> dated.expiry(1));
    }

    private static void ageAbove0() {
        Calls.sentence("with a number above 0, the expiry is the present time plus this number, but at most the present "
                + "time plus 34560000");
        for (long now : new long[] {0, 1, 1000, 2147483647L, 2147483648L, 500000000000L}) {
            expiry(now, "Max-Age=1", now + 1);
            expiry(now, "Max-Age=34559999", now + LONGEST - 1);
            expiry(now, "Max-Age=34560000", now + LONGEST);
            expiry(now, "Max-Age=34560001", now + LONGEST);
            expiry(now, "Max-Age=999999999", now + LONGEST);
        }
    }

    private static void ageOf0OrLess() {
        Calls.sentence("with 0 or less the cookie is expired");
        for (long now : new long[] {0, 1000, 1000000000L}) {
            for (String age : new String[] {"0", "-0", "000", "-1", "-999999999"}) {
                expiry(now, "Max-Age=" + age, 0);
            }
        }
    }

    private static void dateLater() {
        Calls.sentence("if there is an Expires attribute, the expiry is its date, but at most the present time plus "
                + "34560000");
        // 5 February 1971, 00:00:00, is 400 days behind the beginning of time
        expiry(0, "Expires=04 Feb 1971 23:59:59", LONGEST - 1);
        expiry(0, "Expires=05 Feb 1971 00:00:00", LONGEST);
        expiry(0, "Expires=05 Feb 1971 00:00:01", LONGEST);
        expiry(1, "Expires=05 Feb 1971 00:00:01", LONGEST + 1);
        expiry(1, "Expires=05 Feb 1971 00:00:02", LONGEST + 1);
        expiry(0, "Expires=31 Dec 9999 23:59:59", LONGEST);
        expiry(4000000000L, "Expires=31 Dec 9999 23:59:59", 4000000000L + LONGEST);
    }

    private static void dateNotLater() {
        Calls.sentence("if the date is not later than the present time, the cookie is expired");
        expiry(0, "Expires=01 Jan 1970 00:00:00", 0);
        expiry(0, "Expires=01 Jan 1970 00:00:01", 1);
        expiry(1, "Expires=01 Jan 1970 00:00:00", 0);
        expiry(59, "Expires=01 Jan 1970 00:01:00", 60);
        expiry(60, "Expires=01 Jan 1970 00:01:00", 0);
        expiry(61, "Expires=01 Jan 1970 00:01:00", 0);
        expiry(5000000000L, "Expires=01 Jan 1970 00:00:00", 0);
        expiry(2147483647L, "Expires=19 Jan 2038 03:14:07", 0);
        expiry(2147483646L, "Expires=19 Jan 2038 03:14:07", 2147483647L);
        expiry(2147483647L, "Expires=19 Jan 2038 03:14:08", 2147483648L);
        expiry(4294967295L, "Expires=07 Feb 2106 06:28:16", 4294967296L);
        expiry(4294967296L, "Expires=07 Feb 2106 06:28:16", 0);
    }

    private static void ageCountsBeforeDate() {
        Calls.sentence("Otherwise, if there is an Expires attribute");
        expiry(5, "Max-Age=1;Expires=01 Jan 1970 00:00:09", 6);
        expiry(5, "Expires=01 Jan 1970 00:00:09;Max-Age=1", 6);
        expiry(5, "Expires=01 Jan 1970 00:00:02;Max-Age=1", 6);
        expiry(5, "Expires=01 Jan 1970 00:00:09;Max-Age=0", 0);
        expiry(5, "Max-Age=-1;Expires=01 Jan 1970 00:00:09", 0);
        expiry(5, "Max-Age=x;Expires=01 Jan 1970 00:00:09", 9);
        expiry(5, "Max-Age;Expires=01 Jan 1970 00:00:02", 0);
    }

    private static void session() {
        Calls.sentence("Otherwise it is a session cookie.");
        expiry(0, "", -1);
        expiry(1000000000L, "", -1);
        expiry(0, "Max-Age=x;Expires=never", -1);
    }
}
