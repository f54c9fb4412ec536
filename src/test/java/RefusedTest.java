/**
 * "A call that throws an exception changes nothing. If several exceptions apply to a call, the one that is
 * listed first is thrown." Every sentence of the document that begins with "Throws" has its refused calls here,
 * and all that can be seen of the jar is looked at before and behind each of them.
 */
public final class RefusedTest {
    private static final int LEAST = Integer.MIN_VALUE;
    private static final int MOST = Integer.MAX_VALUE;
    private static final String[] NO_DOMAINS = {
        "", ".", "a.", ".a", "a..a", "A", "a b", "a/", "a_a", "abcdefghijabcdefghijabcdefghijk"};

    public static void main(String[] args) {
        everyChangeIsSeen();
        type();
        callsThatNeedARequest();
        siteCharAndHeaderChar();
        addSuffix();
        rejectionAndCount();
        wouldSend();
        charactersOfCookies();
        propertiesOfCookies();
        firstFrom();
        remove();
        advance();
        settings();
        snapshots();
        callsThatThrowNothing();
        callsThatOnlyLook();
        callsWithNothingToDo();
        Calls.end();
    }

    /** Nothing in it is as at first, slot 0 differs from what is now, and slot 1 is empty. */
    private static CookieJar busy(String text) {
        CookieJar jar = new CookieJar();
        Calls.suffix(jar, "co.uk");
        Calls.request(jar, "https://x.a.co.uk/p/q");
        Calls.page(jar, "https://a.co.uk");
        jar.setLimit(0, 3);
        jar.setLimit(1, 7);
        jar.setPolicy(3);
        jar.advance(100);
        Calls.receive(jar, "a=1;Secure;HttpOnly;Max-Age=50");
        jar.send(true, false);
        jar.save(0);
        Calls.receive(jar, "b=22;Domain=a.co.uk;Path=/");
        jar.advance(1);
        jar.send(true, false);
        Calls.receive(jar, "=");
        Calls.type(jar, text);
        return jar;
    }

    private static CookieJar busy() {
        return busy("a.7");
    }

    /** Has a page, but no request, and so no cookies. */
    private static CookieJar idle() {
        CookieJar jar = new CookieJar();
        Calls.suffix(jar, "c.d");
        Calls.page(jar, "http://q.c.d");
        jar.setLimit(0, 9);
        jar.save(0);
        jar.setPolicy(2);
        jar.advance(9);
        Calls.type(jar, "a=1");
        return jar;
    }

    private static CookieJar fullText() {
        CookieJar jar = Calls.jarAt("http://a.b");
        Calls.receive(jar, "a=1");
        while (jar.type('x') < 160) {
            continue;
        }
        return jar;
    }

    private static CookieJar sixSuffixes(String text) {
        CookieJar jar = Calls.jarAt("http://z.s.1.s");
        Calls.receive(jar, "a=1");
        for (int n = 1; n <= 6; n++) {
            Calls.suffix(jar, "s." + n + ".s");
        }
        Calls.type(jar, text);
        return jar;
    }

    /** Has no cookie of the site of its request, and no session cookie. */
    private static CookieJar elsewhere() {
        CookieJar jar = Calls.jarAt("http://c.d");
        Calls.receive(jar, "a=1;Max-Age=9");
        Calls.request(jar, "http://a.b");
        Calls.type(jar, "a.7");
        return jar;
    }

    /** Without this, the looks at a refused call would show nothing. */
    private static void everyChangeIsSeen() {
        Whole.Act[] changes = {
            jar -> jar.type('x'), CookieJar::clearText, jar -> Calls.page(jar, "http://z"),
            jar -> Calls.request(jar, "http://z"), CookieJar::addSuffix, jar -> jar.receive(false),
            jar -> jar.send(false, true), jar -> jar.remove(0), CookieJar::clearSite, CookieJar::endSession,
            jar -> jar.advance(1), jar -> jar.setLimit(0, 4), jar -> jar.setLimit(1, 4), jar -> jar.setPolicy(2),
            jar -> jar.save(0), jar -> jar.save(1), jar -> jar.restore(0)};
        String before = String.join("\n", Whole.of(RefusedTest::busy));
        for (int k = 0; k < changes.length; k++) {
            String behind = String.join("\n", Whole.of(Whole.after(RefusedTest::busy, changes[k])));
            Calls.due("change " + k + " is seen", false, before.equals(behind));
        }
    }

    private static void type() {
        Calls.sentence("Throws IllegalArgumentException if c is out of its range");
        for (int c : new int[] {31, 127, 0, -1, 128, 255, 256 + 'a', 65536 + 'a', LEAST, MOST}) {
            Whole.dueRefused("2 type(" + c + ")", RefusedTest::busy, Calls.BAD_ARGUMENT, jar -> jar.type(c));
        }
        Calls.sentence("Throws IllegalStateException if the text has 160 characters already");
        for (int c : new int[] {32, 'x', 126}) {
            Whole.dueRefused("2 type(" + c + ")", RefusedTest::fullText, Calls.BAD_STATE, jar -> jar.type(c));
        }
        Calls.sentence("If several exceptions apply to a call, the one that is listed first is thrown.");
        for (int c : new int[] {31, 127, LEAST, MOST}) {
            Whole.dueRefused("2 type(" + c + ")", RefusedTest::fullText, Calls.BAD_ARGUMENT, jar -> jar.type(c));
        }
    }

    private static void callsThatNeedARequest() {
        Calls.sentence("Throws IllegalStateException if there is no request");
        Whole.Maker[] makers = {RefusedTest::idle, CookieJar::new};
        for (Whole.Maker maker : makers) {
            Whole.dueRefused("6 isSameSite()", maker, Calls.BAD_STATE, jar -> jar.isSameSite() ? 1 : 0);
            Whole.dueRefused("7 siteChar(0)", maker, Calls.BAD_STATE, jar -> jar.siteChar(0));
            Whole.dueRefused("9 receive(false)", maker, Calls.BAD_STATE, jar -> jar.receive(false));
            Whole.dueRefused("9 receive(true)", maker, Calls.BAD_STATE, jar -> jar.receive(true));
            Whole.dueRefused("11 send(false, false)", maker, Calls.BAD_STATE, jar -> jar.send(false, false));
            Whole.dueRefused("11 send(true, true)", maker, Calls.BAD_STATE, jar -> jar.send(true, true));
            Whole.dueRefused("30 clearSite()", maker, Calls.BAD_STATE, CookieJar::clearSite);
        }
    }

    private static void siteCharAndHeaderChar() {
        for (int k : new int[] {-1, -2, LEAST}) {
            Calls.sentence("Throws IndexOutOfBoundsException if k is negative");
            Whole.dueRefused("7 siteChar(" + k + ")", RefusedTest::busy, Calls.BAD_INDEX, jar -> jar.siteChar(k));
            Whole.dueRefused("12 headerChar(" + k + ")", RefusedTest::busy, Calls.BAD_INDEX, jar -> jar.headerChar(k));
            Whole.dueRefused("12 headerChar(" + k + ") of none", RefusedTest::idle, Calls.BAD_INDEX,
                    jar -> jar.headerChar(k));
            Calls.sentence("If several exceptions apply to a call, the one that is listed first is thrown.");
            Whole.dueRefused("7 siteChar(" + k + ")", RefusedTest::idle, Calls.BAD_STATE, jar -> jar.siteChar(k));
        }
    }

    private static void addSuffix() {
        for (String text : NO_DOMAINS) {
            Calls.sentence("Throws IllegalArgumentException if the text is not a domain, or is a suffix already");
            Whole.dueRefused("8 \"" + text + "\"", () -> busy(text), Calls.BAD_ARGUMENT, CookieJar::addSuffix);
            Calls.sentence("If several exceptions apply to a call, the one that is listed first is thrown.");
            Whole.dueRefused("8 \"" + text + "\"", () -> sixSuffixes(text), Calls.BAD_ARGUMENT, CookieJar::addSuffix);
        }
        Calls.sentence("Throws IllegalArgumentException if the text is not a domain, or is a suffix already");
        Whole.dueRefused("8 a suffix already", () -> busy("co.uk"), Calls.BAD_ARGUMENT, CookieJar::addSuffix);
        Calls.sentence("If several exceptions apply to a call, the one that is listed first is thrown.");
        for (int n = 1; n <= 6; n++) {
            String known = "s." + n + ".s";
            Whole.dueRefused("8 " + known, () -> sixSuffixes(known), Calls.BAD_ARGUMENT, CookieJar::addSuffix);
        }
        Calls.sentence("Throws IllegalStateException if there are 6 suffixes already");
        for (String text : new String[] {"s.7.s", "s", "1.s", "a.s.1.s", "z"}) {
            Whole.dueRefused("8 " + text, () -> sixSuffixes(text), Calls.BAD_STATE, CookieJar::addSuffix);
        }
    }

    private static void rejectionAndCount() {
        Calls.sentence("Throws IndexOutOfBoundsException if depth is not 0 or 1");
        for (int depth : new int[] {-1, 2, LEAST, MOST}) {
            Whole.dueRefused("10 rejection(" + depth + ")", RefusedTest::busy, Calls.BAD_INDEX,
                    jar -> jar.rejection(depth));
            Whole.dueRefused("10 rejection(" + depth + ")", RefusedTest::idle, Calls.BAD_INDEX,
                    jar -> jar.rejection(depth));
        }
        Calls.sentence("Throws IndexOutOfBoundsException if event is not 0 to 6");
        for (int event : new int[] {-1, 7, LEAST, MOST}) {
            Whole.dueRefused("38 count(" + event + ")", RefusedTest::busy, Calls.BAD_INDEX, jar -> jar.count(event));
            Whole.dueRefused("38 count(" + event + ")", RefusedTest::idle, Calls.BAD_INDEX, jar -> jar.count(event));
        }
    }

    private static void wouldSend() {
        for (int i : new int[] {-1, 2, 3, 40, 41, LEAST, MOST}) {
            Calls.sentence("Throws IndexOutOfBoundsException if there is no such cookie");
            Whole.dueRefused("13 wouldSend(" + i + ")", RefusedTest::busy, Calls.BAD_INDEX,
                    jar -> jar.wouldSend(i, true, false) ? 1 : 0);
            Calls.sentence("If several exceptions apply to a call, the one that is listed first is thrown.");
            Whole.dueRefused("13 wouldSend(" + i + ")", RefusedTest::idle, Calls.BAD_STATE,
                    jar -> jar.wouldSend(i, true, false) ? 1 : 0);
        }
        Calls.sentence("Throws IllegalStateException if there is no request");
        Whole.dueRefused("13 wouldSend(0)", RefusedTest::idle, Calls.BAD_STATE,
                jar -> jar.wouldSend(0, false, true) ? 1 : 0);
    }

    private static void charactersOfCookies() {
        Calls.sentence("Throws IndexOutOfBoundsException if there is no such cookie, or k is negative");
        int[][] wrong = {{-1, 0}, {2, 0}, {41, 0}, {LEAST, 0}, {MOST, 0}, {0, -1}, {1, LEAST}, {-1, -1}, {2, -1},
            {MOST, MOST}};
        for (int[] pair : wrong) {
            int i = pair[0];
            int k = pair[1];
            String where = "(" + i + ", " + k + ")";
            Whole.dueRefused("15 nameChar" + where, RefusedTest::busy, Calls.BAD_INDEX, jar -> jar.nameChar(i, k));
            Whole.dueRefused("16 valueChar" + where, RefusedTest::busy, Calls.BAD_INDEX, jar -> jar.valueChar(i, k));
            Whole.dueRefused("17 domainChar" + where, RefusedTest::busy, Calls.BAD_INDEX, jar -> jar.domainChar(i, k));
            Whole.dueRefused("18 pathChar" + where, RefusedTest::busy, Calls.BAD_INDEX, jar -> jar.pathChar(i, k));
        }
        Whole.dueRefused("15 of no cookies", RefusedTest::idle, Calls.BAD_INDEX, jar -> jar.nameChar(0, 0));
        Whole.dueRefused("16 of no cookies", RefusedTest::idle, Calls.BAD_INDEX, jar -> jar.valueChar(0, 0));
        Whole.dueRefused("17 of no cookies", RefusedTest::idle, Calls.BAD_INDEX, jar -> jar.domainChar(0, 0));
        Whole.dueRefused("18 of no cookies", RefusedTest::idle, Calls.BAD_INDEX, jar -> jar.pathChar(0, 0));
    }

    private static void propertiesOfCookies() {
        Calls.sentence("Throws IndexOutOfBoundsException if there is no such cookie");
        for (int i : new int[] {-1, 2, 40, 41, LEAST, MOST}) {
            refusedProperties(RefusedTest::busy, i);
        }
        refusedProperties(RefusedTest::idle, 0);
    }

    private static void refusedProperties(Whole.Maker maker, int i) {
        Whole.dueRefused("19 expiry(" + i + ")", maker, Calls.BAD_INDEX, jar -> jar.expiry(i));
        Whole.dueRefused("20 created(" + i + ")", maker, Calls.BAD_INDEX, jar -> jar.created(i));
        Whole.dueRefused("21 accessed(" + i + ")", maker, Calls.BAD_INDEX, jar -> jar.accessed(i));
        Whole.dueRefused("22 serial(" + i + ")", maker, Calls.BAD_INDEX, jar -> jar.serial(i));
        Whole.dueRefused("23 isHostOnly(" + i + ")", maker, Calls.BAD_INDEX, jar -> jar.isHostOnly(i) ? 1 : 0);
        Whole.dueRefused("24 isSecure(" + i + ")", maker, Calls.BAD_INDEX, jar -> jar.isSecure(i) ? 1 : 0);
        Whole.dueRefused("25 isHttpOnly(" + i + ")", maker, Calls.BAD_INDEX, jar -> jar.isHttpOnly(i) ? 1 : 0);
        Whole.dueRefused("26 sameSite(" + i + ")", maker, Calls.BAD_INDEX, jar -> jar.sameSite(i));
        Whole.dueRefused("27 priority(" + i + ")", maker, Calls.BAD_INDEX, jar -> jar.priority(i));
    }

    private static void firstFrom() {
        Calls.sentence("Throws IllegalArgumentException if the text is not a domain");
        for (String text : NO_DOMAINS) {
            Whole.dueRefused("28 \"" + text + "\"", () -> busy(text), Calls.BAD_ARGUMENT, CookieJar::firstFrom);
        }
        Whole.dueRefused("28 in an empty jar", RefusedTest::idle, Calls.BAD_ARGUMENT, CookieJar::firstFrom);
    }

    private static void remove() {
        Calls.sentence("Throws IndexOutOfBoundsException if there is no such cookie");
        for (int i : new int[] {-1, 2, 3, 40, 41, LEAST, MOST}) {
            Whole.dueRefused("29 remove(" + i + ")", RefusedTest::busy, Calls.BAD_INDEX, jar -> jar.remove(i));
        }
        Whole.dueRefused("29 remove(0) of none", RefusedTest::idle, Calls.BAD_INDEX, jar -> jar.remove(0));
    }

    private static void advance() {
        Calls.sentence("Throws IllegalArgumentException if seconds is negative");
        for (int seconds : new int[] {-1, -50, LEAST}) {
            Whole.dueRefused("32 advance(" + seconds + ")", RefusedTest::busy, Calls.BAD_ARGUMENT,
                    jar -> jar.advance(seconds));
        }
    }

    private static void settings() {
        for (int limit : new int[] {-1, 2, LEAST, MOST}) {
            Calls.sentence("Throws IndexOutOfBoundsException if limit is not 0 or 1");
            Whole.dueRefused("35 setLimit(" + limit + ", 6)", RefusedTest::busy, Calls.BAD_INDEX,
                    jar -> jar.setLimit(limit, 6));
            Calls.sentence("If several exceptions apply to a call, the one that is listed first is thrown.");
            for (int n : new int[] {0, 41}) {
                Whole.dueRefused("35 setLimit(" + limit + ", " + n + ")", RefusedTest::busy, Calls.BAD_INDEX,
                        jar -> jar.setLimit(limit, n));
            }
        }
        Calls.sentence("Throws IllegalArgumentException if n is out of its range");
        for (int n : new int[] {0, 41, -1, LEAST, MOST}) {
            Whole.dueRefused("35 setLimit(0, " + n + ")", RefusedTest::busy, Calls.BAD_ARGUMENT,
                    jar -> jar.setLimit(0, n));
            Whole.dueRefused("35 setLimit(1, " + n + ")", RefusedTest::busy, Calls.BAD_ARGUMENT,
                    jar -> jar.setLimit(1, n));
        }
        Calls.sentence("Throws IllegalArgumentException if policy is out of its range");
        for (int policy : new int[] {-1, 4, LEAST, MOST}) {
            Whole.dueRefused("36 setPolicy(" + policy + ")", RefusedTest::busy, Calls.BAD_ARGUMENT,
                    jar -> jar.setPolicy(policy));
        }
    }

    private static void snapshots() {
        Calls.sentence("Throws IndexOutOfBoundsException if slot is not 0 or 1");
        for (int slot : new int[] {-1, 2, LEAST, MOST}) {
            Whole.dueRefused("39 save(" + slot + ")", RefusedTest::busy, Calls.BAD_INDEX, jar -> jar.save(slot));
            Whole.dueRefused("40 restore(" + slot + ")", RefusedTest::busy, Calls.BAD_INDEX, jar -> jar.restore(slot));
            Whole.dueRefused("40 restore(" + slot + ") in a new jar", CookieJar::new, Calls.BAD_INDEX,
                    jar -> jar.restore(slot));
        }
        Calls.sentence("Throws IllegalStateException if nothing was kept in it");
        Whole.dueRefused("40 restore(1)", RefusedTest::busy, Calls.BAD_STATE, jar -> jar.restore(1));
        Whole.dueRefused("40 restore(0) in a new jar", CookieJar::new, Calls.BAD_STATE, jar -> jar.restore(0));
        Whole.dueRefused("40 restore(1) in a new jar", CookieJar::new, Calls.BAD_STATE, jar -> jar.restore(1));
    }

    private static void callsThatThrowNothing() {
        Calls.sentence("");
        Whole.Maker[] makers = {CookieJar::new, RefusedTest::idle, RefusedTest::busy, RefusedTest::fullText};
        Whole.Act[] calls = {CookieJar::clearText, CookieJar::openPage, CookieJar::openRequest, CookieJar::cookies,
            CookieJar::endSession, CookieJar::time, CookieJar::nextExpiry, CookieJar::victim, CookieJar::fingerprint};
        for (Whole.Maker maker : makers) {
            for (int k = 0; k < calls.length; k++) {
                CookieJar jar = maker.make();
                Whole.Act call = calls[k];
                boolean answers = Calls.answer(() -> call.on(jar)) > Calls.BAD_ARGUMENT || k == calls.length - 1;
                Calls.due("call " + k + " throws nothing", true, answers);
            }
        }
    }

    private static void callsThatOnlyLook() {
        Calls.sentence("");
        Whole.Act[] looks = {
            jar -> jar.isSameSite() ? 1 : 0, jar -> jar.siteChar(0), jar -> jar.siteChar(MOST),
            jar -> jar.rejection(0), jar -> jar.rejection(1), jar -> jar.headerChar(0), jar -> jar.headerChar(MOST),
            jar -> jar.wouldSend(0, false, false) ? 1 : 0, jar -> jar.wouldSend(1, true, true) ? 1 : 0,
            CookieJar::cookies, jar -> jar.nameChar(0, 0), jar -> jar.valueChar(1, 1), jar -> jar.domainChar(1, MOST),
            jar -> jar.pathChar(1, 0), jar -> jar.expiry(0), jar -> jar.created(0), jar -> jar.accessed(0),
            jar -> jar.serial(0), jar -> jar.isHostOnly(0) ? 1 : 0, jar -> jar.isSecure(0) ? 1 : 0,
            jar -> jar.isHttpOnly(0) ? 1 : 0, jar -> jar.sameSite(0), jar -> jar.priority(0), CookieJar::firstFrom,
            CookieJar::time, CookieJar::nextExpiry, CookieJar::victim, jar -> jar.count(0), CookieJar::fingerprint};
        for (int k = 0; k < looks.length; k++) {
            Whole.dueUnchanged("look " + k, RefusedTest::busy, looks[k]);
        }
        Calls.sentence("If the text is not an address, nothing changes.");
        for (String text : new String[] {"", "http://", "https://a.", "http://a:", "x", "a.7"}) {
            Whole.dueUnchanged("4 \"" + text + "\"", () -> busy(text), CookieJar::openPage);
            Whole.dueUnchanged("5 \"" + text + "\"", () -> busy(text), CookieJar::openRequest);
        }
    }

    private static void callsWithNothingToDo() {
        Calls.sentence("");
        Whole.dueUnchanged("3 clearText() of none", () -> busy(""), CookieJar::clearText);
        Whole.dueUnchanged("30 clearSite() of none", RefusedTest::elsewhere, CookieJar::clearSite);
        Whole.dueUnchanged("31 endSession() of none", RefusedTest::elsewhere, CookieJar::endSession);
        Whole.dueUnchanged("32 advance(0)", RefusedTest::busy, jar -> jar.advance(0));
        Whole.dueUnchanged("35 setLimit(0, 3)", RefusedTest::busy, jar -> jar.setLimit(0, 3));
        Whole.dueUnchanged("35 setLimit(1, 7)", RefusedTest::busy, jar -> jar.setLimit(1, 7));
        Whole.dueUnchanged("36 setPolicy(3)", RefusedTest::busy, jar -> jar.setPolicy(3));
    }
}
