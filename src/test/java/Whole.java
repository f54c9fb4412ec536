/**
 * All that can be seen of a jar. Some of it shows only by a call that changes the jar, so each look is
 * taken at a jar made anew; this also keeps every one of them within its 512 calls.
 */
final class Whole {
    interface Maker {
        CookieJar make();
    }

    interface Act {
        long on(CookieJar jar);
    }

    private interface Look {
        String at(CookieJar jar);
    }

    private static final String[] HOSTS = {"x.a.co.uk", "co.uk", "a.b", "c.d", "q.c.d", "z", "s.1.s", "s.6.s"};

    private static final Look[] LOOKS = {
        Whole::numbers,
        Whole::header,
        Whole::rows,
        Whole::properties,
        Whole::settings,
        Whole::request,
        Whole::going,
        jar -> "text " + jar.clearText(),
        jar -> "text as page " + jar.openPage() + request(jar),
        jar -> "text as request " + jar.openRequest() + request(jar),
        jar -> "text as domain " + answer(jar::firstFrom),
        jar -> "text as suffix " + answer(jar::addSuffix) + sites(jar),
        jar -> "text as cookie " + answer(() -> jar.receive(false)) + rows(jar) + numbers(jar),
        jar -> "suffixes " + answer(() -> Calls.suffix(jar, "new.suffix")) + sites(jar),
        jar -> "page of https" + pages(jar, "https://"),
        jar -> "page of http" + pages(jar, "http://"),
        jar -> "path" + answer(() -> Calls.receive(jar, "q=1")) + rows(jar) + properties(jar),
        jar -> "scheme" + answer(() -> Calls.receive(jar, "q=1;Secure")) + jar.rejection(1) + jar.cookies(),
        jar -> "snapshot 0 " + answer(() -> jar.restore(0)) + numbers(jar) + request(jar) + settings(jar),
        jar -> "snapshot 1 " + answer(() -> jar.restore(1)) + numbers(jar) + request(jar) + settings(jar),
        jar -> "headers of snapshots " + answer(() -> jar.restore(0)) + header(jar) + answer(() -> jar.restore(1))
                + header(jar)};

    private Whole() {
    }

    static String[] of(Maker maker) {
        String[] seen = new String[LOOKS.length];
        for (int k = 0; k < seen.length; k++) {
            seen[k] = LOOKS[k].at(maker.make());
        }
        return seen;
    }

    /** A maker whose jars have been acted on, whatever the answer was. */
    static Maker after(Maker maker, Act act) {
        return () -> {
            CookieJar jar = maker.make();
            answer(() -> act.on(jar));
            return jar;
        };
    }

    static void dueUnchanged(String what, Maker maker, Act act) {
        String[] before = of(maker);
        String[] behind = of(after(maker, act));
        for (int k = 0; k < before.length; k++) {
            Calls.due(what + " changes nothing", before[k], behind[k]);
        }
    }

    static void dueRefused(String what, Maker maker, long exception, Act act) {
        CookieJar jar = maker.make();
        Calls.due(what, exception, () -> act.on(jar));
        dueUnchanged(what, maker, act);
    }

    private static long answer(Calls.Call call) {
        return Calls.answer(call);
    }

    private static String numbers(CookieJar jar) {
        StringBuilder seen = new StringBuilder(" numbers");
        for (long n : new long[] {jar.time(), jar.cookies(), jar.nextExpiry(), jar.victim(), jar.fingerprint(),
            jar.rejection(0), jar.rejection(1)}) {
            seen.append(' ').append(n);
        }
        for (int event = 0; event < 7; event++) {
            seen.append(' ').append(jar.count(event));
        }
        return seen.toString();
    }

    private static String header(CookieJar jar) {
        return " header " + Calls.header(jar);
    }

    private static String rows(CookieJar jar) {
        StringBuilder seen = new StringBuilder(" rows");
        for (int i = 0; i < jar.cookies(); i++) {
            seen.append(" [").append(Calls.name(jar, i)).append('|').append(Calls.value(jar, i)).append('|');
            seen.append(Calls.domain(jar, i)).append('|').append(Calls.path(jar, i)).append(']');
        }
        return seen.toString();
    }

    private static String properties(CookieJar jar) {
        StringBuilder seen = new StringBuilder(" properties");
        for (int i = 0; i < jar.cookies(); i++) {
            seen.append(' ').append(jar.expiry(i)).append(' ').append(jar.created(i)).append(' ');
            seen.append(jar.accessed(i)).append(' ').append(jar.serial(i)).append(' ').append(jar.isHostOnly(i));
            seen.append(jar.isSecure(i)).append(jar.isHttpOnly(i)).append(jar.sameSite(i)).append(jar.priority(i));
        }
        return seen.toString();
    }

    private static String settings(CookieJar jar) {
        return " settings " + jar.setPolicy(0) + " " + jar.setLimit(0, 1) + " " + jar.setLimit(1, 1);
    }

    private static String request(CookieJar jar) {
        if (answer(() -> jar.siteChar(0)) == Calls.BAD_STATE) {
            return " no request";
        }
        return " request " + Calls.site(jar) + " " + jar.isSameSite();
    }

    private static String going(CookieJar jar) {
        StringBuilder seen = new StringBuilder(" going");
        for (int i = 0; i < jar.cookies(); i++) {
            for (int way = 0; way < 4; way++) {
                seen.append(jar.wouldSend(i, way > 1, way % 2 == 1) ? " yes" : " no");
            }
        }
        return seen.toString();
    }

    private static String sites(CookieJar jar) {
        StringBuilder seen = new StringBuilder(" sites");
        for (String host : HOSTS) {
            Calls.request(jar, "http://" + host);
            seen.append(' ').append(Calls.site(jar));
        }
        return seen.toString();
    }

    private static String pages(CookieJar jar, String scheme) {
        StringBuilder seen = new StringBuilder();
        for (String host : HOSTS) {
            Calls.request(jar, scheme + host);
            seen.append(' ').append(jar.isSameSite());
        }
        return seen.toString();
    }
}
