import java.lang.management.ManagementFactory;

/**
 * What a run of 512 calls makes must stay small: the run's room has some 600,000 objects with 7.3 million
 * fields and elements, and nothing that was made is ever given back to it.
 */
public final class RoomTest {
    private static final int CALLS = 512;
    /** Three jars with all their rows take less than this; the room is more than twenty times as large. */
    private static final long MOST_BYTES = 300000;

    private static final com.sun.management.ThreadMXBean THREADS =
            (com.sun.management.ThreadMXBean) ManagementFactory.getThreadMXBean();

    public static void main(String[] args) {
        for (int warm = 0; warm < 3; warm++) {
            dearRun();
        }
        long before = bytes();
        dearRun();
        long made = bytes() - before;
        System.out.println("a run of dear calls made " + made + " bytes");
        Calls.due("the run is within its room", true, made < MOST_BYTES);
        Calls.end();
    }

    private static long bytes() {
        return THREADS.getThreadAllocatedBytes(Thread.currentThread().getId());
    }

    private static int type(CookieJar jar, String text) {
        for (int k = 0; k < text.length(); k++) {
            jar.type(text.charAt(k));
        }
        return text.length();
    }

    private static void dearRun() {
        CookieJar jar = new CookieJar();
        int calls = type(jar, "https://x.a.b/p/q");
        jar.openRequest();
        jar.setLimit(0, 40);
        jar.setLimit(1, 40);
        jar.save(0);
        calls += 4;
        for (char name = 'a'; name <= 'z'; name++) {
            jar.type(name);
            jar.type('=');
            jar.receive(false);
            calls += 3;
        }
        while (calls < CALLS) {
            switch (calls % 8) {
                case 0 -> jar.save(0);
                case 1 -> jar.save(1);
                case 2 -> jar.restore(0);
                case 3 -> jar.send(true, false);
                case 4 -> jar.fingerprint();
                case 5 -> jar.victim();
                case 6 -> jar.isSameSite();
                default -> jar.advance(1);
            }
            calls++;
        }
    }
}
