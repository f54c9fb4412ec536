/** Promises 32 to 41: time, limits, victims, counts, snapshots and the fingerprint. */
public final class TimeTest {
    public static void main(String[] args) {
        advance();
        nextExpiry();
        setLimit();
        setPolicy();
        victimsByPriorityAndSecure();
        victimsByPolicy();
        count();
        saveAndRestore();
        snapshotKeepsEverything();
        fingerprint();
        Calls.end();
    }

    private static void advance() {
        CookieJar jar = Calls.jarAt("https://a.b/");
        Calls.due("32 negative", Calls.BAD_ARGUMENT, () -> jar.advance(-1));
        Calls.due("32 most negative", Calls.BAD_ARGUMENT, () -> jar.advance(Integer.MIN_VALUE));
        Calls.due("33 not passed", 0, jar::time);
        Calls.receive(jar, "a=1; Max-Age=10");
        Calls.receive(jar, "b=1; Max-Age=11");
        Calls.receive(jar, "c=1; Max-Age=10");
        Calls.receive(jar, "d=1");
        Calls.due("32 no time", 0, () -> jar.advance(0));
        Calls.due("32 one second before", 0, () -> jar.advance(9));
        Calls.due("32 at the expiry", 2, () -> jar.advance(1));
        Calls.due("32 the others stay", "b d", Calls.names(jar));
        Calls.due("38 counted", 2, () -> jar.count(3));
        Calls.due("33 time", 10, jar::time);
        Calls.due("32 far", 1, () -> jar.advance(Integer.MAX_VALUE));
        Calls.due("32 farther", 0, () -> jar.advance(Integer.MAX_VALUE));
        Calls.due("33 beyond an int", 4294967304L, jar::time);
        Calls.due("32 session cookies stay", "d", Calls.names(jar));
        Calls.due("38 counted", 3, () -> jar.count(3));
    }

    private static void nextExpiry() {
        CookieJar jar = Calls.jarAt("https://a.b/");
        Calls.due("34 no cookies", -1, jar::nextExpiry);
        Calls.receive(jar, "a=1");
        Calls.due("34 session cookies", -1, jar::nextExpiry);
        Calls.receive(jar, "b=1; Max-Age=30");
        Calls.due("34 one", 30, jar::nextExpiry);
        Calls.receive(jar, "c=1; Max-Age=20");
        Calls.receive(jar, "d=1; Max-Age=40");
        Calls.due("34 the earliest", 20, jar::nextExpiry);
        jar.advance(25);
        Calls.due("34 the next", 30, jar::nextExpiry);
        Calls.receive(jar, "a=1; Max-Age=2");
        Calls.due("34 the first in the list", 27, jar::nextExpiry);
        Calls.receive(jar, "z=1; Max-Age=1");
        Calls.due("34 the last in the list", 26, jar::nextExpiry);
    }

    private static void setLimit() {
        CookieJar jar = Calls.jarAt("https://a.b/");
        for (int limit : new int[] {-1, 2, Integer.MAX_VALUE, Integer.MIN_VALUE}) {
            Calls.due("35 limit " + limit, Calls.BAD_INDEX, () -> jar.setLimit(limit, 5));
            Calls.due("35 limit " + limit + ", n too", Calls.BAD_INDEX, () -> jar.setLimit(limit, 0));
        }
        for (int n : new int[] {0, 41, -1, Integer.MAX_VALUE, Integer.MIN_VALUE}) {
            Calls.due("35 n " + n, Calls.BAD_ARGUMENT, () -> jar.setLimit(0, n));
            Calls.due("35 n " + n, Calls.BAD_ARGUMENT, () -> jar.setLimit(1, n));
        }
        Calls.due("35 site", 5, () -> jar.setLimit(0, 40));
        Calls.due("35 site", 40, () -> jar.setLimit(0, 1));
        Calls.due("35 all", 20, () -> jar.setLimit(1, 40));
        Calls.due("35 all", 40, () -> jar.setLimit(1, 3));
        Calls.due("35 site", 1, () -> jar.setLimit(0, 40));
        for (String cookie : new String[] {"a=1", "b=1", "c=1"}) {
            Calls.receive(jar, cookie);
        }
        jar.setLimit(0, 1);
        jar.setLimit(1, 1);
        Calls.due("35 cookies stay", 3, jar::cookies);
    }

    private static void setPolicy() {
        CookieJar jar = new CookieJar();
        for (int policy : new int[] {-1, 4, Integer.MAX_VALUE, Integer.MIN_VALUE}) {
            Calls.due("36 policy " + policy, Calls.BAD_ARGUMENT, () -> jar.setPolicy(policy));
        }
        Calls.due("36 from 0", 0, () -> jar.setPolicy(3));
        Calls.due("36 from 3", 3, () -> jar.setPolicy(1));
        Calls.due("36 from 1", 1, () -> jar.setPolicy(2));
        Calls.due("36 from 2", 2, () -> jar.setPolicy(0));
    }

    /** Lets the victims go one by one and tells their names. */
    private static String victims(CookieJar jar) {
        jar.save(1);
        StringBuilder names = new StringBuilder();
        for (int left = jar.cookies(); left > 0; left--) {
            names.append(Calls.name(jar, jar.victim()));
            jar.remove(jar.victim());
        }
        jar.restore(1);
        return names.toString();
    }

    private static void victimsByPriorityAndSecure() {
        CookieJar jar = Calls.jarAt("https://a.b/");
        Calls.due("37 none", -1, jar::victim);
        jar.setLimit(0, 40);
        Calls.receive(jar, "a=1; Priority=High");
        Calls.due("37 the only one, though it was just created", 0, jar::victim);
        Calls.receive(jar, "b=1; Secure; Priority=Medium");
        Calls.receive(jar, "c=1; Priority=Medium");
        Calls.receive(jar, "d=1; Secure; Priority=Low");
        Calls.receive(jar, "e=1; Priority=Low");
        Calls.receive(jar, "f=1; Priority=Low");
        Calls.receive(jar, "g=1; Secure; Priority=High");
        for (int policy = 0; policy < 4; policy++) {
            jar.setPolicy(policy);
            Calls.due("37 priority, secure, serial", "efdcbag", victims(jar));
        }
    }

    private static void victimsByPolicy() {
        CookieJar jar = Calls.jarAt("https://a.b/x");
        jar.setLimit(0, 40);
        jar.advance(1);
        Calls.receive(jar, "d=1; Max-Age=90; Path=/");
        jar.advance(1);
        Calls.receive(jar, "c=4444; Max-Age=80; Path=/y");
        jar.advance(1);
        Calls.receive(jar, "b=333; Path=/y");
        jar.advance(1);
        Calls.receive(jar, "aa=333; Max-Age=100; Path=/y");
        jar.advance(1);
        jar.send(false, false);
        Calls.due("37 by access", "cbaad", victims(jar));
        jar.setPolicy(1);
        Calls.due("37 by creation", "dcbaa", victims(jar));
        jar.setPolicy(2);
        Calls.due("37 by expiry", "cdaab", victims(jar));
        jar.setPolicy(3);
        Calls.due("37 by size", "caabd", victims(jar));
        jar.advance(1);
        Calls.receive(jar, "c=4444; Max-Age=80; Path=/y");
        jar.setPolicy(0);
        Calls.due("37 a replaced one is accessed", "baadc", victims(jar));
        jar.setPolicy(1);
        Calls.due("37 but created as before", "dcbaa", victims(jar));
    }

    private static void counts(CookieJar jar, int... want) {
        for (int event = 0; event < 7; event++) {
            int e = event;
            Calls.due("38 count(" + e + ")", want[e], () -> jar.count(e));
        }
    }

    private static void count() {
        CookieJar jar = Calls.jarAt("https://a.b/");
        for (int event : new int[] {-1, 7, Integer.MAX_VALUE, Integer.MIN_VALUE}) {
            Calls.due("38 count(" + event + ")", Calls.BAD_INDEX, () -> jar.count(event));
        }
        jar.setLimit(0, 3);
        Calls.receive(jar, "a=1; Max-Age=5");
        Calls.receive(jar, "b=1; Max-Age=5");
        Calls.receive(jar, "c=1");
        counts(jar, 3, 0, 0, 0, 0, 0, 0);
        Calls.receive(jar, "c=2");
        Calls.receive(jar, "c=3");
        counts(jar, 3, 2, 0, 0, 0, 0, 0);
        Calls.receive(jar, "c=3; Max-Age=0");
        counts(jar, 3, 2, 1, 0, 0, 0, 0);
        Calls.receive(jar, "c=3; Max-Age=0");
        counts(jar, 3, 2, 1, 0, 0, 0, 1);
        Calls.receive(jar, "c=3; Domain=b");
        Calls.receive(jar, "");
        counts(jar, 3, 2, 1, 0, 0, 2, 1);
        jar.advance(5);
        counts(jar, 3, 2, 1, 2, 0, 2, 1);
        for (String cookie : new String[] {"d=1", "e=1", "f=1", "g=1"}) {
            Calls.receive(jar, cookie);
        }
        counts(jar, 7, 2, 1, 2, 1, 2, 1);
        jar.remove(0);
        jar.endSession();
        jar.clearSite();
        counts(jar, 7, 2, 1, 2, 1, 2, 1);
    }

    private static void saveAndRestore() {
        CookieJar jar = Calls.jarAt("https://a.b/");
        for (int slot : new int[] {-1, 2, Integer.MAX_VALUE, Integer.MIN_VALUE}) {
            Calls.due("39 save(" + slot + ")", Calls.BAD_INDEX, () -> jar.save(slot));
            Calls.due("40 restore(" + slot + ")", Calls.BAD_INDEX, () -> jar.restore(slot));
        }
        Calls.due("40 nothing kept", Calls.BAD_STATE, () -> jar.restore(0));
        Calls.due("40 nothing kept", Calls.BAD_STATE, () -> jar.restore(1));
        Calls.due("39 an empty jar", 0, () -> jar.save(0));
        Calls.due("40 nothing kept in the other one", Calls.BAD_STATE, () -> jar.restore(1));
        Calls.receive(jar, "b=1");
        Calls.receive(jar, "a=1");
        Calls.due("39 two", 2, () -> jar.save(1));
        Calls.due("40 none", 0, () -> jar.restore(0));
        Calls.due("14 none", 0, jar::cookies);
        Calls.due("40 two", 2, () -> jar.restore(1));
        Calls.due("14 as they were", "a b", Calls.names(jar));
        jar.remove(0);
        Calls.receive(jar, "b=changed");
        jar.advance(5);
        Calls.due("40 the snapshot stays", 2, () -> jar.restore(1));
        Calls.due("16 its cookies too", "1", Calls.value(jar, 1));
        Calls.due("33 its time too", 0, jar::time);
        Calls.receive(jar, "c=1");
        Calls.due("39 kept over the old one", 3, () -> jar.save(1));
        jar.endSession();
        Calls.due("40 the new one", 3, () -> jar.restore(1));
        Calls.due("40 the other one stays", 0, () -> jar.restore(0));
    }

    /** A jar in which nothing is as at first. */
    private static CookieJar busyJar() {
        CookieJar jar = Calls.jarAt("https://x.a.co.uk/p/q");
        Calls.suffix(jar, "co.uk");
        Calls.page(jar, "https://y.a.co.uk");
        jar.setLimit(0, 3);
        jar.setLimit(1, 7);
        jar.setPolicy(3);
        jar.advance(100);
        Calls.receive(jar, "a=1; Secure; HttpOnly; SameSite=Strict; Priority=High; Max-Age=50");
        Calls.receive(jar, "b=2; Domain=a.co.uk; Path=/");
        jar.advance(1);
        jar.send(true, false);
        Calls.receive(jar, "=");
        return jar;
    }

    private static String all(CookieJar jar) {
        StringBuilder all = new StringBuilder();
        all.append(jar.fingerprint()).append(' ').append(jar.time()).append(' ').append(Calls.header(jar));
        all.append(' ').append(jar.rejection(1)).append(' ').append(Calls.site(jar)).append(' ').append(jar.isSameSite());
        for (int i = 0; i < jar.cookies(); i++) {
            all.append(' ').append(jar.isHostOnly(i)).append(jar.isSecure(i)).append(jar.isHttpOnly(i));
            all.append(jar.sameSite(i)).append(jar.priority(i)).append(jar.wouldSend(i, false, false));
        }
        int policy = jar.setPolicy(0);
        int site = jar.setLimit(0, 1);
        int most = jar.setLimit(1, 1);
        all.append(' ').append(policy).append(' ').append(site).append(' ').append(most);
        jar.setPolicy(policy);
        jar.setLimit(0, site);
        jar.setLimit(1, most);
        return all.toString();
    }

    private static void snapshotKeepsEverything() {
        CookieJar jar = busyJar();
        String before = all(jar);
        jar.save(0);
        Calls.due("39 changes nothing", before, all(jar));
        Calls.suffix(jar, "uk");
        Calls.suffix(jar, "a.co.uk");
        Calls.page(jar, "http://c.d");
        Calls.request(jar, "http://e.f/g");
        jar.setLimit(0, 9);
        jar.setLimit(1, 9);
        jar.setPolicy(1);
        Calls.receive(jar, "c=1");
        jar.send(false, false);
        jar.advance(60);
        jar.endSession();
        Calls.type(jar, "abc");
        Calls.due("40 restored", 2, () -> jar.restore(0));
        Calls.due("40 the text is not kept", 3, jar::clearText);
        Calls.due("40 everything as it was", before, all(jar));
        Calls.due("40 suffixes too", 2, () -> Calls.suffix(jar, "uk"));
        Calls.due("40 serial numbers too", 1, () -> Calls.receive(jar, "c=1"));
        Calls.due("22 the third one", 2, () -> jar.serial(jar.cookies() - 1));

        CookieJar other = Calls.jarAt("https://x.a.co.uk");
        other.save(0);
        Calls.suffix(other, "co.uk");
        Calls.suffix(other, "b.uk");
        other.save(1);
        other.restore(0);
        Calls.suffix(other, "x.a.co.uk");
        Calls.suffix(other, "y.uk");
        Calls.due("7 by another suffix", "x.a.co.uk", Calls.site(other));
        other.restore(1);
        Calls.due("40 the suffixes that were kept", "a.co.uk", Calls.site(other));
        Calls.due("40 all of them", Calls.BAD_ARGUMENT, () -> Calls.suffix(other, "b.uk"));

        CookieJar empty = new CookieJar();
        empty.save(0);
        Calls.request(empty, "http://a.b");
        Calls.page(empty, "http://c.d");
        Calls.receive(empty, "a=1");
        empty.send(true, false);
        empty.restore(0);
        Calls.due("40 no request again", Calls.BAD_STATE, () -> empty.send(false, false));
        Calls.due("40 no header again", -1, () -> empty.headerChar(0));
        Calls.request(empty, "http://a.b");
        Calls.due("40 no page again", true, empty.isSameSite());
    }

    private static long mix(long sum, long... numbers) {
        long mixed = sum;
        for (long number : numbers) {
            mixed = 31 * mixed + number;
        }
        return mixed;
    }

    private static long mix(long sum, String row) {
        return mix(sum, row.chars().asLongStream().toArray());
    }

    private static void fingerprint() {
        CookieJar jar = busyJar();
        long want = mix(23, 101);
        want = mix(want, "b2a.co.uk/");
        want = mix(want, -1, 100, 101, 1);
        want = mix(want, "a1x.a.co.uk/p");
        want = mix(want, 150, 100, 101, 0);
        long whole = mix(want, 2, 0, 0, 0, 0, 1, 0);
        Calls.due("41 two cookies", whole, jar::fingerprint);
        Calls.due("41 changes nothing", whole, jar::fingerprint);
        jar.setPolicy(0);
        Calls.type(jar, "x");
        Calls.due("41 not of the policy or the text", whole, jar::fingerprint);
        jar.advance(0);
        Calls.due("41 not of no time", whole, jar::fingerprint);
        jar.clearText();
        Calls.receive(jar, "=");
        long again = mix(want, 2, 0, 0, 0, 0, 2, 0);
        Calls.due("41 of the counts", again, jar::fingerprint);
        jar.endSession();
        jar.advance(1000);
        Calls.due("41 of an empty jar", mix(23, 1101, 2, 0, 0, 1, 0, 2, 0), jar::fingerprint);
    }
}
