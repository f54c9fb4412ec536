/** Edges of snapshots and of the fingerprint (promises 39 to 41), sentence by sentence. */
public final class SnapshotEdgesTest {
    public static void main(String[] args) {
        saveReturnsTheNumber();
        keepsEverything();
        notTheText();
        notTheSnapshots();
        slotsAreTwo();
        keptOverTheOld();
        snapshotStays();
        laterCallsDoNotReachIt();
        restoreTheBeginning();
        restoreGoesOn();
        serialNumbersGoBack();
        suffixesGoBack();
        fingerprintOfNone();
        fingerprintOfNumbers();
        fingerprintOfCookies();
        fingerprintOverflows();
        Calls.end();
    }

    private static CookieJar jarWith(String... cookies) {
        CookieJar jar = Calls.jarAt("https://a.b");
        for (String cookie : cookies) {
            Calls.due("9 \"" + cookie + "\"", 1, () -> Calls.receive(jar, cookie));
        }
        return jar;
    }

    private static void saveReturnsTheNumber() {
        Calls.sentence("Returns the number of cookies.");
        CookieJar jar = jarWith();
        Calls.due("39 none", 0, () -> jar.save(0));
        Calls.receive(jar, "a=1");
        Calls.due("39 one", 1, () -> jar.save(1));
        Calls.receive(jar, "b=1");
        Calls.due("39 two", 2, () -> jar.save(0));
        Calls.sentence("Returns the number of cookies then.");
        Calls.due("40 one", 1, () -> jar.restore(1));
        Calls.due("14 one", 1, jar::cookies);
        Calls.due("40 two", 2, () -> jar.restore(0));
        Calls.due("14 two", 2, jar::cookies);
    }

    /** Every part of the state is another one at the moment of keeping, of restoring, and at first. */
    private static CookieJar kept() {
        CookieJar jar = new CookieJar();
        Calls.suffix(jar, "co.uk");
        Calls.request(jar, "https://x.a.co.uk/p/q");
        Calls.page(jar, "https://z.c.d");
        jar.setLimit(0, 3);
        jar.setLimit(1, 7);
        jar.setPolicy(3);
        jar.advance(100);
        Calls.receive(jar, "a=1;Secure;HttpOnly;Max-Age=50");
        Calls.receive(jar, "b=22;Domain=a.co.uk;Path=/");
        jar.advance(1);
        jar.send(true, false);
        Calls.receive(jar, "=");
        jar.save(0);
        return jar;
    }

    private static void changeAll(CookieJar jar) {
        Calls.suffix(jar, "a.b");
        Calls.request(jar, "http://c.d");
        Calls.page(jar, "http://a.b");
        jar.setLimit(0, 4);
        jar.setLimit(1, 8);
        jar.setPolicy(1);
        Calls.receive(jar, "c=3");
        jar.send(false, false);
        jar.advance(90);
        Calls.receive(jar, "d=1;Secure");
        jar.remove(0);
        jar.endSession();
    }

    private static void keepsEverything() {
        Calls.sentence("Makes everything that a snapshot keeps as it was.");
        Whole.dueUnchanged("40 what was changed", SnapshotEdgesTest::kept, jar -> {
            changeAll(jar);
            return jar.restore(0);
        });
        Whole.Act[] changes = {
            jar -> Calls.suffix(jar, "uk"), jar -> Calls.suffix(jar, "a.co.uk"), jar -> Calls.page(jar, "http://q"),
            jar -> Calls.request(jar, "http://x.a.co.uk/p/q"), jar -> Calls.request(jar, "https://x.a.co.uk/p/q/r/"),
            jar -> jar.setLimit(0, 40), jar -> jar.setLimit(1, 40), jar -> jar.setPolicy(0), jar -> jar.advance(1),
            jar -> jar.advance(49), jar -> jar.send(false, true), jar -> jar.remove(1), CookieJar::clearSite,
            CookieJar::endSession, jar -> Calls.receive(jar, "a=2"), jar -> Calls.receive(jar, "a=2;Max-Age=0"),
            jar -> Calls.receive(jar, "e=2;Max-Age=0"), jar -> Calls.receive(jar, "e=2"), jar -> Calls.receive(jar, "e")};
        for (int k = 0; k < changes.length; k++) {
            Whole.Act change = changes[k];
            Whole.dueUnchanged("40 change " + k, SnapshotEdgesTest::kept, jar -> {
                change.on(jar);
                return jar.restore(0);
            });
        }
        Calls.sentence("Keeps everything except the text and the snapshots in a snapshot.");
        Whole.dueUnchanged("39 keeping once more", SnapshotEdgesTest::kept, jar -> jar.save(0));
        Whole.dueUnchanged("40 restoring at once", SnapshotEdgesTest::kept, jar -> jar.restore(0));
        Whole.dueUnchanged("40 restoring twice", SnapshotEdgesTest::kept, jar -> {
            jar.restore(0);
            changeAll(jar);
            jar.restore(0);
            return jar.restore(0);
        });
    }

    private static void notTheText() {
        Calls.sentence("Keeps everything except the text and the snapshots in a snapshot.");
        CookieJar jar = new CookieJar();
        Calls.type(jar, "abc");
        jar.save(0);
        Calls.due("39 the text stays", 4, () -> jar.type('d'));
        jar.restore(0);
        Calls.due("40 the text stays", 5, () -> jar.type('e'));
        Calls.due("28 as it was typed", -1, jar::firstFrom);
        Calls.due("3 all of it", 5, jar::clearText);
        jar.restore(0);
        Calls.due("40 nor does it come back", 0, jar::clearText);
        Calls.type(jar, "http://a.b");
        jar.restore(0);
        Calls.due("5 is read then", 0, jar::openRequest);
    }

    private static void notTheSnapshots() {
        Calls.sentence("Keeps everything except the text and the snapshots in a snapshot.");
        CookieJar jar = jarWith("a=1");
        jar.save(0);
        Calls.receive(jar, "b=1");
        jar.save(1);
        Calls.due("40 before slot 1 was kept", 1, () -> jar.restore(0));
        Calls.due("40 slot 1 is there still", 2, () -> jar.restore(1));
        Calls.receive(jar, "c=1");
        jar.save(0);
        Calls.due("40 slot 1 has the old slot 0 not in it", 2, () -> jar.restore(1));
        Calls.due("40 slot 0 is the new one", 3, () -> jar.restore(0));
    }

    private static void slotsAreTwo() {
        Calls.sentence("slot: 0 or 1");
        for (int slot = 0; slot < 2; slot++) {
            int one = slot;
            CookieJar jar = jarWith("a=1");
            Calls.due("39 save(" + one + ")", 1, () -> jar.save(one));
            Calls.due("40 nothing was kept in the other one", Calls.BAD_STATE, () -> jar.restore(1 - one));
            Calls.due("40 restore(" + one + ")", 1, () -> jar.restore(one));
        }
    }

    private static void keptOverTheOld() {
        Calls.sentence("Keeps everything except the text and the snapshots in a snapshot.");
        CookieJar jar = jarWith("a=1", "b=1", "c=1");
        Calls.suffix(jar, "x");
        Calls.suffix(jar, "y");
        jar.save(0);
        jar.endSession();
        Calls.receive(jar, "d=long-value");
        Calls.due("39 fewer over more", 1, () -> jar.save(0));
        Calls.receive(jar, "d=s");
        jar.advance(9);
        Calls.due("40 the latest", 1, () -> jar.restore(0));
        Calls.due("15 the latest", "d", Calls.names(jar));
        Calls.due("16 the latest", "long-value", Calls.value(jar, 0));
        Calls.due("33 the latest", 0, jar::time);
        Calls.due("8 all suffixes are back", 3, () -> Calls.suffix(jar, "z"));
    }

    private static void snapshotStays() {
        Calls.sentence("The snapshot stays.");
        CookieJar jar = jarWith("a=1", "b=1");
        jar.save(1);
        for (int n = 0; n < 5; n++) {
            Calls.due("31 both", 2, jar::endSession);
            Calls.due("40 both", 2, () -> jar.restore(1));
            Calls.due("14 both", "a b", Calls.names(jar));
        }
    }

    private static void laterCallsDoNotReachIt() {
        Calls.sentence("The snapshot stays.");
        CookieJar jar = kept();
        long before = jar.fingerprint();
        jar.restore(0);
        changeAll(jar);
        jar.restore(0);
        Calls.due("41 as it was", before, jar::fingerprint);
        Calls.receive(jar, "a=other;Priority=Low");
        jar.send(true, false);
        jar.restore(0);
        Calls.due("41 as it was", before, jar::fingerprint);
        Calls.due("12 its header", "a=1; b=22", Calls.header(jar));
    }

    private static void restoreTheBeginning() {
        Calls.sentence("Makes everything that a snapshot keeps as it was.");
        Whole.Maker begun = () -> {
            CookieJar jar = new CookieJar();
            jar.save(0);
            jar.save(1);
            return jar;
        };
        for (int slot = 0; slot < 2; slot++) {
            int one = slot;
            Whole.dueUnchanged("40 the beginning", begun, jar -> {
                changeAll(jar);
                Calls.receive(jar, "f=1");
                jar.send(true, false);
                return jar.restore(one);
            });
        }
    }

    /** A jar that was restored works on like one that never left the moment. */
    private static void restoreGoesOn() {
        Calls.sentence("Makes everything that a snapshot keeps as it was.");
        CookieJar jar = kept();
        changeAll(jar);
        jar.restore(0);
        CookieJar same = kept();
        for (CookieJar each : new CookieJar[] {jar, same}) {
            Calls.receive(each, "c=1");
            Calls.receive(each, "d=1");
            each.send(true, false);
            each.advance(20);
            Calls.receive(each, "a=1;Max-Age=0");
        }
        Calls.due("41 alike", same.fingerprint(), jar::fingerprint);
        Calls.due("12 alike", Calls.header(same), Calls.header(jar));
        Calls.due("14 alike", Calls.names(same), Calls.names(jar));
    }

    private static void serialNumbersGoBack() {
        Calls.sentence("Makes everything that a snapshot keeps as it was.");
        CookieJar jar = jarWith("a=1");
        jar.save(0);
        Calls.receive(jar, "b=1");
        Calls.receive(jar, "c=1");
        jar.restore(0);
        Calls.receive(jar, "d=1");
        Calls.due("22 the second one", 1, () -> jar.serial(1));
        Calls.due("38 created", 2, () -> jar.count(0));
    }

    /** Others have been in their places since. */
    private static void suffixesGoBack() {
        Calls.sentence("Makes everything that a snapshot keeps as it was.");
        CookieJar jar = Calls.jarAt("http://y.x.a.b");
        jar.save(0);
        Calls.suffix(jar, "a.b");
        Calls.suffix(jar, "c.d");
        jar.save(1);
        jar.restore(0);
        Calls.due("40 none", "a.b", Calls.site(jar));
        Calls.due("8 the first", 1, () -> Calls.suffix(jar, "e.f"));
        Calls.due("8 the second", 2, () -> Calls.suffix(jar, "y.x.a.b"));
        Calls.due("8 the third", 3, () -> Calls.suffix(jar, "c.d"));
        Calls.due("7 by the second", "y.x.a.b", Calls.site(jar));
        jar.restore(1);
        Calls.due("40 by the first that was kept", "x.a.b", Calls.site(jar));
        Calls.request(jar, "http://y.x.c.d");
        Calls.due("40 by the second that was kept", "x.c.d", Calls.site(jar));
        Calls.due("8 the others are none", 3, () -> Calls.suffix(jar, "e.f"));
        Calls.due("8 the others are none", 4, () -> Calls.suffix(jar, "y.x.a.b"));
    }

    private static long mix(long start, long... numbers) {
        long sum = start;
        for (long number : numbers) {
            sum = 31 * sum + number;
        }
        return sum;
    }

    private static long mixRow(long start, String row) {
        long sum = start;
        for (char c : row.toCharArray()) {
            sum = 31 * sum + c;
        }
        return sum;
    }

    private static void fingerprintOfNone() {
        Calls.sentence("It starts as 23; then, for each of the following numbers, in this order, it becomes 31 times itself "
                + "plus the number");
        Calls.due("41 of a new jar", mix(23, 0, 0, 0, 0, 0, 0, 0, 0), () -> new CookieJar().fingerprint());
        Calls.due("41 of a new jar", 19616493861143L, () -> new CookieJar().fingerprint());
        CookieJar jar = new CookieJar();
        jar.advance(7);
        Calls.due("41 with a time", mix(23, 7, 0, 0, 0, 0, 0, 0, 0), jar::fingerprint);
        jar.setLimit(0, 1);
        jar.setPolicy(2);
        Calls.suffix(jar, "a");
        Calls.page(jar, "http://a.b");
        Calls.request(jar, "http://a.b");
        Calls.type(jar, "x");
        jar.send(false, false);
        jar.save(0);
        Calls.due("41 not with anything else", mix(23, 7, 0, 0, 0, 0, 0, 0, 0), jar::fingerprint);
    }

    private static void fingerprintOfNumbers() {
        Calls.sentence("count(0) to count(6)");
        CookieJar jar = Calls.jarAt("http://a.b");
        jar.setLimit(0, 1);
        for (String cookie : new String[] {"a=1", "a=2", "b=1", "b=1;Max-Age=0", "b=1;Max-Age=0", "b", "c=1;Max-Age=1"}) {
            Calls.receive(jar, cookie);
        }
        jar.advance(1);
        Calls.due("41 each count", mix(23, 1, 3, 1, 1, 1, 1, 1, 1), jar::fingerprint);
        CookieJar other = Calls.jarAt("http://a.b");
        Calls.receive(other, "");
        Calls.receive(other, "a=;Max-Age=0");
        Calls.receive(other, "a=;Max-Age=0");
        Calls.due("41 in order", mix(23, 0, 0, 0, 0, 0, 0, 1, 2), other::fingerprint);
    }

    private static void fingerprintOfCookies() {
        Calls.sentence("for each cookie, in the order of cookies, the codes of its name, value, domain and path, its expiry "
                + "(-1 for a session cookie), creation time, time of the latest access, and serial number");
        CookieJar jar = Calls.jarAt("https://x.a.b/p/q");
        jar.advance(2);
        Calls.receive(jar, "zz=top;Secure;HttpOnly;SameSite=Strict;Priority=High");
        jar.advance(3);
        Calls.receive(jar, "name=;Domain=a.b;Path=/z;Max-Age=40");
        jar.advance(4);
        jar.send(true, false);
        long want = mixRow(mix(23, 9), "name" + "a.b" + "/z");
        want = mix(want, 45, 5, 5, 1);
        want = mix(mixRow(want, "zz" + "top" + "x.a.b" + "/p"), -1, 2, 9, 0);
        Calls.due("41 of two", mix(want, 2, 0, 0, 0, 0, 0, 0), jar::fingerprint);
    }

    private static void fingerprintOverflows() {
        Calls.sentence("in long arithmetic with overflow");
        CookieJar jar = Calls.jarAt("http://a.b");
        Calls.advanceTo(jar, 200000000000L);
        long first = mix(23, 200000000000L, 0, 0, 0, 0, 0, 0, 0);
        Calls.due("41 of a late time", first, jar::fingerprint);
        Calls.receive(jar, "sixteen-letters-=thirty-two-letters-is-the-most--;Max-Age=999999999");
        long want = mixRow(mix(23, 200000000000L), "sixteen-letters-thirty-two-letters-is-the-most--a.b/");
        want = mix(want, 200034560000L, 200000000000L, 200000000000L, 0);
        Calls.due("41 of a long cookie", mix(want, 1, 0, 0, 0, 0, 0, 0), jar::fingerprint);
        boolean negative = false;
        boolean positive = false;
        for (int n = 0; n < 20; n++) {
            jar.advance(1);
            negative |= jar.fingerprint() < 0;
            positive |= jar.fingerprint() > 0;
        }
        Calls.due("41 of both signs", true, negative && positive);
    }
}
