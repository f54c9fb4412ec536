import java.time.DateTimeException;
import java.time.LocalDateTime;
import java.time.ZoneOffset;
import java.util.ArrayList;
import java.util.Arrays;
import java.util.Collections;
import java.util.Comparator;
import java.util.List;
import java.util.Locale;
import java.util.Map;
import java.util.TreeMap;
import java.util.function.Predicate;
import java.util.regex.Matcher;
import java.util.regex.Pattern;

/**
 * The document once more, written from its sentences alone and with the whole library: strings, regular
 * expressions, the calendar of java.time, comparators. It shares no code and no way of working with
 * CookieJar, so that a slip in one of both shows as a difference.
 */
final class ModelJar {
    private static final Pattern ADDRESS = Pattern.compile("(http|https)://([^/?]*)(/[^?]*)?(\\?.*)?");
    private static final Pattern LABEL = Pattern.compile("[a-z0-9-]+");
    private static final Pattern DATE =
            Pattern.compile("(\\d\\d) ([A-Za-z]{3}) (\\d{4}) (\\d\\d):(\\d\\d):(\\d\\d)");
    private static final List<String> MONTHS =
            List.of("Jan", "Feb", "Mar", "Apr", "May", "Jun", "Jul", "Aug", "Sep", "Oct", "Nov", "Dec");
    private static final long LONGEST = 34560000;

    record Address(boolean https, String host, String path) {
    }

    /** A cookie never changes: what changes it puts another one in its place. */
    record Cookie(String name, String value, String domain, String path, long expiry, long created,
            long accessed, int serial, boolean hostOnly, boolean secure, boolean httpOnly,
            int sameSite, int priority) {
        String key() {
            return name + "\n" + domain + "\n" + path + "\n" + hostOnly;
        }

        Cookie with(long createdThen, long accessedThen, int serialThen) {
            return new Cookie(name, value, domain, path, expiry, createdThen, accessedThen, serialThen,
                    hostOnly, secure, httpOnly, sameSite, priority);
        }
    }

    /** All but the text and the snapshots; lists and arrays are copied before they change. */
    private static final class State implements Cloneable {
        List<Cookie> cookies = new ArrayList<>();
        List<String> suffixes = List.of();
        Address page = null;
        Address request = null;
        String header = "";
        int cause = 0;
        int[] limits = {5, 20};
        int[] counts = new int[7];
        int policy = 0;
        int nextSerial = 0;
        long time = 0;

        State copy() {
            try {
                State copy = (State) clone();
                copy.limits = limits.clone();
                copy.counts = counts.clone();
                return copy;
            } catch (CloneNotSupportedException e) {
                throw new AssertionError(e);
            }
        }
    }

    private String text = "";
    private State s = new State();
    private final State[] slots = new State[2];

    public int type(int c) {
        argument(c >= 32 && c <= 126);
        state(text.length() < 160);
        text += (char) c;
        return text.length();
    }

    public int clearText() {
        int before = text.length();
        text = "";
        return before;
    }

    public int openPage() {
        Address address = address(text);
        if (address == null) {
            return -1 - errorPosition(text);
        }
        s.page = address;
        text = "";
        return address.https ? 1 : 0;
    }

    public int openRequest() {
        Address address = address(text);
        if (address == null) {
            return -1 - errorPosition(text);
        }
        s.request = address;
        text = "";
        return address.https ? 1 : 0;
    }

    private static Address address(String text) {
        Matcher m = ADDRESS.matcher(text);
        if (!m.matches() || !isDomain(m.group(2))) {
            return null;
        }
        String path = m.group(3) == null ? "/" : m.group(3);
        return path.length() > 40 ? null : new Address(m.group(1).equals("https"), m.group(2), path);
    }

    /** Tries for each beginning of the text whether one of a few ways to go on makes an address of it. */
    private static int errorPosition(String text) {
        List<String> ways = new ArrayList<>(List.of("", "a"));
        for (String whole : List.of("http://a", "https://a")) {
            for (int k = 0; k < whole.length(); k++) {
                ways.add(whole.substring(k));
            }
        }
        for (int k = 0; k < text.length(); k++) {
            String beginning = text.substring(0, k + 1);
            if (ways.stream().noneMatch(way -> address(beginning + way) != null)) {
                return k;
            }
        }
        return text.length();
    }

    private static boolean isDomain(String d) {
        return d.length() >= 1 && d.length() <= 30
                && Arrays.stream(d.split("\\.", -1)).allMatch(label -> LABEL.matcher(label).matches());
    }

    private static boolean matches(String d, String e) {
        return d.equals(e) || d.endsWith("." + e);
    }

    private String publicSuffix(String d) {
        return s.suffixes.stream().filter(e -> matches(d, e)).max(Comparator.comparingInt(String::length))
                .orElse(d.substring(d.lastIndexOf('.') + 1));
    }

    private boolean isPublic(String d) {
        return d.equals(publicSuffix(d));
    }

    private String site(String d) {
        if (isPublic(d)) {
            return d;
        }
        String suffix = publicSuffix(d);
        String before = d.substring(0, d.length() - suffix.length() - 1);
        return before.substring(before.lastIndexOf('.') + 1) + "." + suffix;
    }

    private boolean crossSite() {
        return s.page != null && (!site(s.page.host).equals(site(s.request.host)) || s.page.https != s.request.https);
    }

    public boolean isSameSite() {
        state(s.request != null);
        return !crossSite();
    }

    public int siteChar(int k) {
        state(s.request != null);
        return charAt(site(s.request.host), k);
    }

    public int addSuffix() {
        argument(isDomain(text) && !s.suffixes.contains(text));
        state(s.suffixes.size() < 6);
        List<String> more = new ArrayList<>(s.suffixes);
        more.add(text);
        s.suffixes = more;
        text = "";
        return more.size();
    }

    public int receive(boolean script) {
        state(s.request != null);
        String given = text;
        text = "";
        String[] parts = given.split(";", -1);
        Map<String, String> attributes = attributes(parts);
        s.cause = 0;
        Cookie fresh = fresh(parts[0], attributes, script);
        if (s.cause != 0) {
            s.counts[5]++;
            return 0;
        }
        Cookie old = s.cookies.stream().filter(c -> c.key().equals(fresh.key())).findAny().orElse(null);
        if (fresh.expiry == 0) {
            s.counts[old == null ? 6 : 2]++;
            drop(c -> c == old);
            return old == null ? 0 : 3;
        }
        s.counts[old == null ? 0 : 1]++;
        drop(c -> c == old);
        Cookie stored = old == null
                ? fresh.with(s.time, s.time, s.nextSerial++)
                : fresh.with(old.created, s.time, old.serial);
        put(stored);
        evict(stored, c -> site(c.domain).equals(site(stored.domain)), s.limits[0]);
        evict(stored, c -> true, s.limits[1]);
        return old == null ? 1 : 2;
    }

    private static String trim(String part) {
        return part.replaceAll("^ +", "").replaceAll(" +$", "");
    }

    private static String lower(String text) {
        return text.toLowerCase(Locale.ROOT);
    }

    /** The values of the attributes that count; a Domain without its dot, all that may be in small letters so. */
    private static Map<String, String> attributes(String[] parts) {
        Map<String, String> found = new TreeMap<>();
        for (int p = 1; p < parts.length; p++) {
            int sign = parts[p].indexOf('=');
            String name = lower(trim(sign < 0 ? parts[p] : parts[p].substring(0, sign)));
            String value = trim(sign < 0 ? "" : parts[p].substring(sign + 1));
            switch (name) {
                case "expires" -> {
                    if (date(value) >= 0) {
                        found.put(name, value);
                    }
                }
                case "max-age" -> {
                    if (value.matches("-?[0-9]{1,9}")) {
                        found.put(name, value);
                    }
                }
                case "domain" -> {
                    if (!value.isEmpty() && !value.equals(".")) {
                        found.put(name, lower(value.startsWith(".") ? value.substring(1) : value));
                    }
                }
                case "path" -> {
                    if (value.startsWith("/") && value.length() <= 40) {
                        found.put(name, value);
                    }
                }
                case "secure", "httponly" -> found.put(name, value);
                case "samesite" -> {
                    if (lower(value).matches("none|lax|strict")) {
                        found.put(name, lower(value));
                    }
                }
                case "priority" -> {
                    if (lower(value).matches("low|medium|high")) {
                        found.put(name, lower(value));
                    }
                }
                default -> { }
            }
        }
        return found;
    }

    private static long date(String value) {
        Matcher m = DATE.matcher(value);
        if (!m.matches() || !MONTHS.contains(m.group(2)) || Integer.parseInt(m.group(3)) < 1970) {
            return -1;
        }
        try {
            return LocalDateTime.of(Integer.parseInt(m.group(3)), MONTHS.indexOf(m.group(2)) + 1,
                    Integer.parseInt(m.group(1)), Integer.parseInt(m.group(4)), Integer.parseInt(m.group(5)),
                    Integer.parseInt(m.group(6))).toEpochSecond(ZoneOffset.UTC);
        } catch (DateTimeException e) {
            return -1;
        }
    }

    /** The cookie that results, with expiry 0 if it is expired; or none, and the cause of that. */
    private Cookie fresh(String pair, Map<String, String> attributes, boolean script) {
        int sign = pair.indexOf('=');
        String name = trim(pair.substring(0, Math.max(sign, 0)));
        String value = trim(pair.substring(sign + 1));
        String d = attributes.get("domain");
        boolean open = d != null && isDomain(d) && isPublic(d);
        boolean foreign = d != null && !open && (!isDomain(d) || !matches(s.request.host, d));
        boolean hostOnly = d == null || open;
        String lax = attributes.getOrDefault("samesite", "lax");
        String rank = attributes.getOrDefault("priority", "medium");
        Cookie c = new Cookie(name, value, hostOnly ? s.request.host : d,
                attributes.getOrDefault("path", defaultPath()), expiry(attributes), 0, 0, 0, hostOnly,
                attributes.containsKey("secure"), attributes.containsKey("httponly"),
                List.of("none", "lax", "strict").indexOf(lax), List.of("low", "medium", "high").indexOf(rank));
        boolean plain = !s.request.https;
        cause(11, sign < 0);
        cause(12, name.isEmpty());
        cause(13, name.length() > 16 || value.length() > 32);
        cause(21, open && !d.equals(s.request.host));
        cause(22, foreign);
        cause(31, c.secure && plain);
        cause(61, c.httpOnly && script);
        cause(32, !c.secure && plain && s.cookies.stream().anyMatch(old -> old.secure && old.name.equals(name)
                && (matches(old.domain, c.domain) || matches(c.domain, old.domain))
                && pathMatches(c.path, old.path)));
        cause(51, c.sameSite == 0 && !c.secure);
        cause(41, name.startsWith("__Secure-") && !c.secure);
        cause(42, name.startsWith("__Host-") && (!c.secure || !hostOnly || !c.path.equals("/")));
        cause(62, script && s.cookies.stream().anyMatch(old -> old.key().equals(c.key()) && old.httpOnly));
        return c;
    }

    private void cause(int number, boolean applies) {
        if (s.cause == 0 && applies) {
            s.cause = number;
        }
    }

    private String defaultPath() {
        String before = s.request.path.substring(0, s.request.path.lastIndexOf('/'));
        return before.isEmpty() ? "/" : before;
    }

    private long expiry(Map<String, String> attributes) {
        long latest = s.time + LONGEST;
        if (attributes.containsKey("max-age")) {
            long age = Long.parseLong(attributes.get("max-age"));
            return age <= 0 ? 0 : Math.min(s.time + age, latest);
        }
        if (attributes.containsKey("expires")) {
            long date = date(attributes.get("expires"));
            return date <= s.time ? 0 : Math.min(date, latest);
        }
        return -1;
    }

    private static boolean pathMatches(String p, String q) {
        return p.equals(q) || p.startsWith(q) && (q.endsWith("/") || p.charAt(q.length()) == '/');
    }

    private int drop(Predicate<Cookie> which) {
        List<Cookie> left = new ArrayList<>(s.cookies);
        left.removeIf(which);
        int dropped = s.cookies.size() - left.size();
        s.cookies = left;
        return dropped;
    }

    private void put(Cookie cookie) {
        List<Cookie> more = new ArrayList<>(s.cookies);
        more.add(cookie);
        more.sort((a, b) -> {
            int order = compareDomains(a.domain, b.domain);
            return order != 0 ? order : Comparator.comparing(Cookie::path).thenComparing(Cookie::name)
                    .thenComparing(Cookie::hostOnly).compare(a, b);
        });
        s.cookies = more;
    }

    private static int compareDomains(String a, String b) {
        List<String> as = Arrays.asList(a.split("\\."));
        List<String> bs = Arrays.asList(b.split("\\."));
        Collections.reverse(as);
        Collections.reverse(bs);
        return Arrays.compare(as.toArray(new String[0]), bs.toArray(new String[0]));
    }

    private void evict(Cookie spared, Predicate<Cookie> among, int limit) {
        while (s.cookies.stream().filter(among).count() > limit) {
            Cookie victim = victim(c -> among.test(c) && c.serial != spared.serial);
            drop(c -> c == victim);
            s.counts[4]++;
        }
    }

    private Cookie victim(Predicate<Cookie> among) {
        List<Comparator<Cookie>> policies = List.of(
                Comparator.comparingLong(Cookie::accessed),
                Comparator.comparingLong(Cookie::created),
                Comparator.comparing((Cookie c) -> c.expiry == -1).thenComparing(Cookie::expiry),
                Comparator.comparingInt((Cookie c) -> c.name.length() + c.value.length()).reversed());
        return s.cookies.stream().filter(among).min(Comparator.comparingInt(Cookie::priority)
                .thenComparing(Cookie::secure).thenComparing(policies.get(s.policy))
                .thenComparing(Cookie::serial)).orElse(null);
    }

    public int rejection(int depth) {
        index(depth == 0 || depth == 1);
        return depth == 1 ? s.cause : s.cause / 10;
    }

    private boolean goes(Cookie c, boolean navigation, boolean script) {
        boolean host = c.hostOnly ? s.request.host.equals(c.domain) : matches(s.request.host, c.domain);
        boolean site = c.sameSite == 0 || !crossSite() || c.sameSite == 1 && navigation;
        return host && pathMatches(s.request.path, c.path) && (!c.secure || s.request.https)
                && (!c.httpOnly || !script) && site;
    }

    public int send(boolean navigation, boolean script) {
        state(s.request != null);
        List<Cookie> sent = new ArrayList<>(s.cookies);
        sent.removeIf(c -> !goes(c, navigation, script));
        sent.sort(Comparator.comparingInt((Cookie c) -> -c.path.length()).thenComparing(Cookie::serial));
        s.header = String.join("; ", sent.stream().map(c -> c.name + "=" + c.value).toList());
        s.cookies = new ArrayList<>(s.cookies.stream()
                .map(c -> sent.contains(c) ? c.with(c.created, s.time, c.serial) : c).toList());
        return sent.size();
    }

    public int headerChar(int k) {
        return charAt(s.header, k);
    }

    public boolean wouldSend(int i, boolean navigation, boolean script) {
        state(s.request != null);
        return goes(cookie(i), navigation, script);
    }

    public int cookies() {
        return s.cookies.size();
    }

    public int nameChar(int i, int k) {
        return charAt(cookie(i).name, k);
    }

    public int valueChar(int i, int k) {
        return charAt(cookie(i).value, k);
    }

    public int domainChar(int i, int k) {
        return charAt(cookie(i).domain, k);
    }

    public int pathChar(int i, int k) {
        return charAt(cookie(i).path, k);
    }

    public long expiry(int i) {
        return cookie(i).expiry;
    }

    public long created(int i) {
        return cookie(i).created;
    }

    public long accessed(int i) {
        return cookie(i).accessed;
    }

    public int serial(int i) {
        return cookie(i).serial;
    }

    public boolean isHostOnly(int i) {
        return cookie(i).hostOnly;
    }

    public boolean isSecure(int i) {
        return cookie(i).secure;
    }

    public boolean isHttpOnly(int i) {
        return cookie(i).httpOnly;
    }

    public int sameSite(int i) {
        return cookie(i).sameSite;
    }

    public int priority(int i) {
        return cookie(i).priority;
    }

    public int firstFrom() {
        argument(isDomain(text));
        for (Cookie c : s.cookies) {
            if (compareDomains(c.domain, text) >= 0) {
                return s.cookies.indexOf(c);
            }
        }
        return -1;
    }

    public int remove(int i) {
        Cookie gone = cookie(i);
        drop(c -> c == gone);
        return s.cookies.size();
    }

    public int clearSite() {
        state(s.request != null);
        return drop(c -> site(c.domain).equals(site(s.request.host)));
    }

    public int endSession() {
        return drop(c -> c.expiry == -1);
    }

    public int advance(int seconds) {
        argument(seconds >= 0);
        s.time += seconds;
        int dropped = drop(c -> c.expiry != -1 && c.expiry <= s.time);
        s.counts[3] += dropped;
        return dropped;
    }

    public long time() {
        return s.time;
    }

    public long nextExpiry() {
        return s.cookies.stream().mapToLong(Cookie::expiry).filter(e -> e != -1).min().orElse(-1);
    }

    public int setLimit(int limit, int n) {
        index(limit == 0 || limit == 1);
        argument(n >= 1 && n <= 40);
        int before = s.limits[limit];
        s.limits[limit] = n;
        return before;
    }

    public int setPolicy(int policy) {
        argument(policy >= 0 && policy <= 3);
        int before = s.policy;
        s.policy = policy;
        return before;
    }

    public int victim() {
        return s.cookies.indexOf(victim(c -> true));
    }

    public int count(int event) {
        index(event >= 0 && event <= 6);
        return s.counts[event];
    }

    public int save(int slot) {
        index(slot == 0 || slot == 1);
        slots[slot] = s.copy();
        return s.cookies.size();
    }

    public int restore(int slot) {
        index(slot == 0 || slot == 1);
        state(slots[slot] != null);
        s = slots[slot].copy();
        return s.cookies.size();
    }

    public long fingerprint() {
        List<Long> numbers = new ArrayList<>(List.of(s.time));
        for (Cookie c : s.cookies) {
            (c.name + c.value + c.domain + c.path).chars().forEach(code -> numbers.add((long) code));
            numbers.addAll(List.of(c.expiry, c.created, c.accessed, (long) c.serial));
        }
        Arrays.stream(s.counts).forEach(n -> numbers.add((long) n));
        return numbers.stream().reduce(23L, (sum, n) -> 31 * sum + n);
    }

    private Cookie cookie(int i) {
        index(i >= 0 && i < s.cookies.size());
        return s.cookies.get(i);
    }

    private static int charAt(String row, int k) {
        index(k >= 0);
        return k < row.length() ? row.charAt(k) : -1;
    }

    private static void argument(boolean good) {
        if (!good) {
            throw new IllegalArgumentException();
        }
    }

    private static void state(boolean good) {
        if (!good) {
            throw new IllegalStateException();
        }
    }

    private static void index(boolean good) {
        if (!good) {
            throw new IndexOutOfBoundsException();
        }
    }
}
