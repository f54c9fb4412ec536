/**
 * A cookie jar for a browser. The methods of the face stand first: they look at their arguments,
 * throw what the document names, and leave the work to the classes below them.
 */
public final class CookieJar {
    private static final int LOWEST_CODE = 32;
    private static final int HIGHEST_CODE = 126;
    private static final int MOST_TEXT = 160;
    private static final int MOST_DOMAIN = 30;
    private static final int MOST_SUFFIXES = 6;
    private static final int MOST_PATH = 40;
    private static final int MOST_NAME = 16;
    private static final int MOST_VALUE = 32;
    private static final int MOST_LIMIT = 40;
    /** One more than the highest limit: a new cookie is in the jar before another one is evicted. */
    private static final int SLOTS = MOST_LIMIT + 1;
    private static final int MOST_HEADER = SLOTS * (MOST_NAME + MOST_VALUE + 3);
    private static final int MOST_AGE = 34560000;
    private static final int SNAPSHOTS = 2;

    private static final int LIMITS = 2;
    private static final int SITE_LIMIT = 0;
    private static final int JAR_LIMIT = 1;

    private static final int POLICIES = 4;
    private static final int BY_ACCESS = 0;
    private static final int BY_CREATION = 1;
    private static final int BY_EXPIRY = 2;

    private static final int SAME_SITE_NONE = 0;
    private static final int SAME_SITE_LAX = 1;
    private static final int PRIORITY_MEDIUM = 1;

    private static final int DROPPED = 0;
    private static final int CREATED = 1;
    private static final int REPLACED = 2;
    private static final int REMOVED = 3;

    private static final int EVENTS = 7;
    private static final int WAS_CREATED = 0;
    private static final int WAS_REPLACED = 1;
    private static final int WAS_REMOVED = 2;
    private static final int RAN_OUT = 3;
    private static final int WAS_EVICTED = 4;
    private static final int WAS_REJECTED = 5;
    private static final int WAS_IGNORED = 6;

    /** Stands for an expiry, a date, an index or a serial number that there is not. */
    private static final int NONE = -1;
    /** A time that is later than every expiry. */
    private static final long BEHIND_ALL = 0x7fffffffffffffffL;

    private final Row text;
    private final Reader reader;
    private final Jar jar;
    /** A snapshot is made when it is first needed; until then nothing was kept in it. */
    private final Jar[] snapshots;

    public CookieJar() {
        text = new Row(MOST_TEXT);
        reader = new Reader();
        jar = new Jar();
        snapshots = new Jar[SNAPSHOTS];
    }

    // ---- text, addresses, suffixes

    public int type(int c) throws IllegalArgumentException, IllegalStateException {
        if (c < LOWEST_CODE || c > HIGHEST_CODE) {
            throw new IllegalArgumentException("a code is 32 to 126");
        }
        if (text.length >= MOST_TEXT) {
            throw new IllegalStateException("the text is full");
        }
        text.add(c);
        return text.length;
    }

    public int clearText() {
        int before = text.length;
        text.empty();
        return before;
    }

    public int openPage() {
        return open(jar.page);
    }

    public int openRequest() {
        return open(jar.request);
    }

    private int open(Address address) {
        int answer = address.read(text);
        if (answer >= 0) {
            text.empty();
        }
        return answer;
    }

    public boolean isSameSite() throws IllegalStateException {
        needRequest();
        return !jar.isCrossSite();
    }

    public int siteChar(int k) throws IllegalStateException, IndexOutOfBoundsException {
        needRequest();
        needIndex(k);
        Row host = jar.request.host;
        int from = jar.suffixes.siteStart(host);
        // k is held against the length first, since a large k plus the start would wrap around
        return k < host.length ? host.at(from + k) : NONE;
    }

    public int addSuffix() throws IllegalArgumentException, IllegalStateException {
        if (!Domains.isDomain(text)) {
            throw new IllegalArgumentException("the text is not a domain");
        }
        if (jar.suffixes.has(text)) {
            throw new IllegalArgumentException("the text is a suffix already");
        }
        if (jar.suffixes.size >= MOST_SUFFIXES) {
            throw new IllegalStateException("there are 6 suffixes already");
        }
        jar.suffixes.append(text);
        text.empty();
        return jar.suffixes.size;
    }

    // ---- receiving

    public int receive(boolean script) throws IllegalStateException {
        needRequest();
        reader.read(text);
        text.empty();
        int answer = jar.accept(reader, script);
        if (answer == CREATED || answer == REPLACED) {
            jar.evict();
        }
        return answer;
    }

    public int rejection(int depth) throws IndexOutOfBoundsException {
        if (depth != 0 && depth != 1) {
            throw new IndexOutOfBoundsException("a depth is 0 or 1");
        }
        return depth == 0 ? jar.cause / 10 : jar.cause;
    }

    // ---- sending

    public int send(boolean navigation, boolean script) throws IllegalStateException {
        needRequest();
        return jar.writeHeader(jar.isCrossSite(), navigation, script);
    }

    public int headerChar(int k) throws IndexOutOfBoundsException {
        needIndex(k);
        return jar.header.at(k);
    }

    public boolean wouldSend(int i, boolean navigation, boolean script)
            throws IllegalStateException, IndexOutOfBoundsException {
        needRequest();
        return jar.goes(listed(i), jar.isCrossSite(), navigation, script);
    }

    // ---- cookies in the jar

    public int cookies() {
        return jar.size;
    }

    public int nameChar(int i, int k) throws IndexOutOfBoundsException {
        needIndex(k);
        return listed(i).name.at(k);
    }

    public int valueChar(int i, int k) throws IndexOutOfBoundsException {
        needIndex(k);
        return listed(i).value.at(k);
    }

    public int domainChar(int i, int k) throws IndexOutOfBoundsException {
        needIndex(k);
        return listed(i).domain.at(k);
    }

    public int pathChar(int i, int k) throws IndexOutOfBoundsException {
        needIndex(k);
        return listed(i).path.at(k);
    }

    public long expiry(int i) throws IndexOutOfBoundsException {
        return listed(i).expiresAt;
    }

    public long created(int i) throws IndexOutOfBoundsException {
        return listed(i).createdAt;
    }

    public long accessed(int i) throws IndexOutOfBoundsException {
        return listed(i).accessedAt;
    }

    public int serial(int i) throws IndexOutOfBoundsException {
        return listed(i).number;
    }

    public boolean isHostOnly(int i) throws IndexOutOfBoundsException {
        return listed(i).hostOnly;
    }

    public boolean isSecure(int i) throws IndexOutOfBoundsException {
        return listed(i).secure;
    }

    public boolean isHttpOnly(int i) throws IndexOutOfBoundsException {
        return listed(i).httpOnly;
    }

    public int sameSite(int i) throws IndexOutOfBoundsException {
        return listed(i).siteRule;
    }

    public int priority(int i) throws IndexOutOfBoundsException {
        return listed(i).rank;
    }

    public int firstFrom() throws IllegalArgumentException {
        if (!Domains.isDomain(text)) {
            throw new IllegalArgumentException("the text is not a domain");
        }
        return jar.firstNotBefore(text);
    }

    public int remove(int i) throws IndexOutOfBoundsException {
        needCookie(i);
        jar.drop(i);
        return jar.size;
    }

    public int clearSite() throws IllegalStateException {
        needRequest();
        return jar.dropSite(jar.request.host);
    }

    public int endSession() {
        return jar.dropSession();
    }

    // ---- time, limits

    public int advance(int seconds) throws IllegalArgumentException {
        if (seconds < 0) {
            throw new IllegalArgumentException("time does not go back");
        }
        return jar.pass(seconds);
    }

    public long time() {
        return jar.now;
    }

    public long nextExpiry() {
        return jar.earliestExpiry();
    }

    public int setLimit(int limit, int n) throws IndexOutOfBoundsException, IllegalArgumentException {
        if (limit < 0 || limit >= LIMITS) {
            throw new IndexOutOfBoundsException("a limit is 0 or 1");
        }
        if (n < 1 || n > MOST_LIMIT) {
            throw new IllegalArgumentException("a limit is set to 1 to 40");
        }
        int before = jar.limits[limit];
        jar.limits[limit] = n;
        return before;
    }

    public int setPolicy(int policy) throws IllegalArgumentException {
        if (policy < 0 || policy >= POLICIES) {
            throw new IllegalArgumentException("a policy is 0 to 3");
        }
        int before = jar.policy;
        jar.policy = policy;
        return before;
    }

    public int victim() {
        return jar.victimOfAll(NONE);
    }

    public int count(int event) throws IndexOutOfBoundsException {
        if (event < 0 || event >= EVENTS) {
            throw new IndexOutOfBoundsException("an event is 0 to 6");
        }
        return jar.counts[event];
    }

    // ---- snapshots

    public int save(int slot) throws IndexOutOfBoundsException {
        needSlot(slot);
        Jar kept = snapshots[slot];
        if (kept == null) {
            kept = new Jar();
            snapshots[slot] = kept;
        }
        kept.become(jar);
        return kept.size;
    }

    public int restore(int slot) throws IndexOutOfBoundsException, IllegalStateException {
        needSlot(slot);
        Jar kept = snapshots[slot];
        if (kept == null) {
            throw new IllegalStateException("nothing was kept in this snapshot");
        }
        jar.become(kept);
        return jar.size;
    }

    public long fingerprint() {
        return jar.mix();
    }

    // ---- what the methods of the face need

    private void needRequest() {
        if (!jar.request.open) {
            throw new IllegalStateException("there is no request");
        }
    }

    private void needIndex(int k) {
        if (k < 0) {
            throw new IndexOutOfBoundsException("an index is 0 or more");
        }
    }

    private void needCookie(int i) {
        if (i < 0 || i >= jar.size) {
            throw new IndexOutOfBoundsException("there is no such cookie");
        }
    }

    private void needSlot(int slot) {
        if (slot < 0 || slot >= SNAPSHOTS) {
            throw new IndexOutOfBoundsException("a slot is 0 or 1");
        }
    }

    private Cookie listed(int i) {
        needCookie(i);
        return jar.cookies[i];
    }

    /** Characters in a room that is made once and used again; what is outside it reads as -1. */
    private static final class Row {
        final char[] codes;
        int length;

        Row(int most) {
            codes = new char[Math.max(most, 0)];
            length = 0;
        }

        int at(int k) {
            return k >= 0 && k < length && k < codes.length ? codes[k] : NONE;
        }

        void add(int c) {
            if (length >= 0 && length < codes.length) {
                codes[length] = (char) c;
                length++;
            }
        }

        void empty() {
            length = 0;
        }

        void append(Row other) {
            for (int k = 0; k < other.length; k++) {
                add(other.at(k));
            }
        }

        void copy(Row other) {
            take(other, 0, other.length);
        }

        void take(Row other, int from, int to) {
            length = 0;
            int end = Math.min(to, other.length);
            for (int k = Math.max(from, 0); k < end; k++) {
                add(other.at(k));
            }
        }

        void takeTrimmed(Row other, int from, int to) {
            int first = from;
            int end = to;
            while (first < end && other.at(first) == ' ') {
                first++;
            }
            while (end > first && other.at(end - 1) == ' ') {
                end--;
            }
            take(other, first, end);
        }

        void toSmallLetters() {
            for (int k = 0; k < length && k < codes.length; k++) {
                if (codes[k] >= 'A' && codes[k] <= 'Z') {
                    codes[k] = (char) (codes[k] - 'A' + 'a');
                }
            }
        }

        /** The first index of c from one index up to another one, or this other one. */
        int find(char c, int from, int to) {
            for (int k = from; k < to; k++) {
                if (at(k) == c) {
                    return k;
                }
            }
            return to;
        }

        /** How many characters at the beginning are those of the word. */
        int agreement(String word) {
            int k = 0;
            while (k < word.length() && at(k) == word.charAt(k)) {
                k++;
            }
            return k;
        }

        boolean begins(String word) {
            return agreement(word) == word.length();
        }

        boolean is(String word) {
            return length == word.length() && agreement(word) == length;
        }

        boolean same(Row other) {
            return compareParts(0, length, other, 0, other.length) == 0;
        }

        boolean sameTail(int from, Row other, int otherFrom) {
            return compareParts(from, length, other, otherFrom, other.length) == 0;
        }

        int compare(Row other) {
            return compareParts(0, length, other, 0, other.length);
        }

        int compareParts(int from, int to, Row other, int otherFrom, int otherTo) {
            int common = Math.min(to - from, otherTo - otherFrom);
            for (int k = 0; k < common; k++) {
                int order = Integer.compare(at(from + k), other.at(otherFrom + k));
                if (order != 0) {
                    return order;
                }
            }
            return Integer.compare(to - from, otherTo - otherFrom);
        }

        /** The number that the digits of a part write, or -1 if one of them is no digit. */
        int number(int from, int to) {
            int sum = 0;
            for (int k = from; k < to; k++) {
                int c = at(k);
                if (c < '0' || c > '9') {
                    return NONE;
                }
                sum = 10 * sum + (c - '0');
            }
            return sum;
        }

        boolean pathMatches(Row other) {
            if (other.length > length || compareParts(0, other.length, other, 0, other.length) != 0) {
                return false;
            }
            return other.length == length || other.at(other.length - 1) == '/' || at(other.length) == '/';
        }

        boolean domainMatches(Row other) {
            int from = length - other.length;
            if (from < 0 || from > 0 && at(from - 1) != '.') {
                return false;
            }
            for (int k = from; k < length; k++) {
                if (at(k) != other.at(k - from)) {
                    return false;
                }
            }
            return true;
        }

        long mix(long before) {
            long sum = before;
            for (int k = 0; k < length; k++) {
                sum = 31 * sum + at(k);
            }
            return sum;
        }
    }

    /** What is said of domains without regard to suffixes. */
    private static final class Domains {
        /** The index of the first character, from one index on, with which no domain goes on. */
        static int end(Row row, int from) {
            int k = from;
            while (k < row.length && goesOn(row, from, k)) {
                k++;
            }
            return k;
        }

        private static boolean goesOn(Row row, int from, int k) {
            if (row.at(k) == '.') {
                // a dot needs a label before it, and room for one behind it
                return k > from && row.at(k - 1) != '.' && k - from < MOST_DOMAIN - 1;
            }
            return isOfLabel(row.at(k)) && k - from < MOST_DOMAIN;
        }

        private static boolean isOfLabel(int c) {
            return c >= 'a' && c <= 'z' || c >= '0' && c <= '9' || c == '-';
        }

        /** Whether what end() has passed is a domain, not only the beginning of one. */
        static boolean isWhole(Row row, int from, int end) {
            return end > from && row.at(end - 1) != '.';
        }

        static boolean isDomain(Row row) {
            int end = end(row, 0);
            return end == row.length && isWhole(row, 0, end);
        }

        /** Where the label begins that ends before an index. */
        static int labelStart(Row row, int end) {
            int k = end;
            while (k > 0 && row.at(k - 1) != '.') {
                k--;
            }
            return k;
        }

        /** The order of domains, by their labels from the last one to the first one. */
        static int compare(Row a, Row b) {
            int endA = a.length;
            int endB = b.length;
            for (int label = 0; label < MOST_DOMAIN && endA > 0 && endB > 0; label++) {
                int fromA = labelStart(a, endA);
                int fromB = labelStart(b, endB);
                int order = a.compareParts(fromA, endA, b, fromB, endB);
                if (order != 0) {
                    return order;
                }
                endA = fromA - 1;
                endB = fromB - 1;
            }
            return Integer.compare(endA, endB);
        }
    }

    /** The suffixes, and what is public and of one site by them. */
    private static final class Suffixes {
        final Row[] rows;
        int size;

        Suffixes() {
            rows = new Row[MOST_SUFFIXES];
            for (int i = 0; i < MOST_SUFFIXES; i++) {
                rows[i] = new Row(MOST_DOMAIN);
            }
            size = 0;
        }

        boolean has(Row domain) {
            for (int i = 0; i < size; i++) {
                if (rows[i].same(domain)) {
                    return true;
                }
            }
            return false;
        }

        void append(Row domain) {
            if (size < MOST_SUFFIXES) {
                rows[size].copy(domain);
                size++;
            }
        }

        int publicStart(Row domain) {
            int start = Domains.labelStart(domain, domain.length);
            for (int i = 0; i < size; i++) {
                if (domain.domainMatches(rows[i])) {
                    start = Math.min(start, domain.length - rows[i].length);
                }
            }
            return start;
        }

        boolean isPublic(Row domain) {
            return publicStart(domain) == 0;
        }

        int siteStart(Row domain) {
            int start = publicStart(domain);
            return start == 0 ? 0 : Domains.labelStart(domain, start - 1);
        }

        boolean sameSites(Row domain, Row other) {
            return domain.sameTail(siteStart(domain), other, siteStart(other));
        }

        void become(Suffixes other) {
            size = other.size;
            for (int i = 0; i < size; i++) {
                rows[i].copy(other.rows[i]);
            }
        }
    }

    /** The address of the page or of the request; it is not open as long as there is none. */
    private static final class Address {
        final Row host;
        final Row path;
        boolean open;
        boolean https;

        Address() {
            host = new Row(MOST_DOMAIN);
            path = new Row(MOST_PATH);
            open = false;
            https = false;
        }

        /** Becomes what the text says, or stays; answers as openPage() and openRequest() do. */
        int read(Row text) {
            boolean secured = text.at(4) == 's';
            String scheme = secured ? "https://" : "http://";
            int from = text.agreement(scheme);
            if (from < scheme.length()) {
                return -1 - from;
            }
            int hostEnd = Domains.end(text, from);
            if (!Domains.isWhole(text, from, hostEnd)) {
                return -1 - hostEnd;
            }
            int pathEnd = endOfPath(text, hostEnd);
            if (pathEnd < text.length && text.at(pathEnd) != '?') {
                return -1 - pathEnd;
            }
            fill(text, from, hostEnd, pathEnd);
            https = secured;
            return secured ? 1 : 0;
        }

        /** The index behind the path that begins at an index, which is this index if none does. */
        private static int endOfPath(Row text, int from) {
            if (text.at(from) != '/') {
                return from;
            }
            return text.find('?', from, Math.min(text.length, from + MOST_PATH));
        }

        private void fill(Row text, int from, int hostEnd, int pathEnd) {
            host.take(text, from, hostEnd);
            path.take(text, hostEnd, pathEnd);
            if (path.length == 0) {
                path.add('/');
            }
            open = true;
        }

        void become(Address other) {
            host.copy(other.host);
            path.copy(other.path);
            open = other.open;
            https = other.https;
        }
    }

    /** Reads a date such as "09 Jun 2031 10:18:14". */
    private static final class Dates {
        private static final String MONTHS = "JanFebMarAprMayJunJulAugSepOctNovDec";
        private static final int[] DAYS_BEFORE = {0, 31, 59, 90, 120, 151, 181, 212, 243, 273, 304, 334, 365};
        private static final int FIRST_YEAR = 1970;
        private static final int LENGTH = 20;

        /** The time of a date, or -1 if the row is not one. */
        static long read(Row row) {
            if (row.length != LENGTH || !hasSigns(row)) {
                return NONE;
            }
            int day = row.number(0, 2);
            int month = month(row);
            int year = row.number(7, 11);
            if (year < FIRST_YEAR || month < 0 || day < 1 || day > daysOf(year, month)) {
                return NONE;
            }
            int hours = row.number(12, 14);
            int minutes = row.number(15, 17);
            int seconds = row.number(18, 20);
            if (hours < 0 || hours > 23 || minutes < 0 || minutes > 59 || seconds < 0 || seconds > 59) {
                return NONE;
            }
            long days = daysBefore(year, month) + day - 1;
            return ((days * 24 + hours) * 60 + minutes) * 60 + seconds;
        }

        private static boolean hasSigns(Row row) {
            return row.at(2) == ' ' && row.at(6) == ' ' && row.at(11) == ' ' && row.at(14) == ':' && row.at(17) == ':';
        }

        /** The month from 0, or -1 if its name is none. */
        private static int month(Row row) {
            for (int m = 0; m < 12; m++) {
                if (row.at(3) == MONTHS.charAt(3 * m) && row.at(4) == MONTHS.charAt(3 * m + 1)
                        && row.at(5) == MONTHS.charAt(3 * m + 2)) {
                    return m;
                }
            }
            return NONE;
        }

        private static boolean isLeap(int year) {
            return year % 4 == 0 && (year % 100 != 0 || year % 400 == 0);
        }

        private static int daysOf(int year, int month) {
            if (month < 0 || month > 11) {
                return 0;
            }
            int days = DAYS_BEFORE[month + 1] - DAYS_BEFORE[month];
            return month == 1 && isLeap(year) ? days + 1 : days;
        }

        private static int leapDaysBefore(int year) {
            int last = year - 1;
            return last / 4 - last / 100 + last / 400;
        }

        /** The days from 1 January 1970 to the first day of a month. */
        private static long daysBefore(int year, int month) {
            if (month < 0 || month > 11) {
                return 0;
            }
            int leapDays = leapDaysBefore(year) - leapDaysBefore(FIRST_YEAR) + (month > 1 && isLeap(year) ? 1 : 0);
            return 365 * (year - FIRST_YEAR) + leapDays + DAYS_BEFORE[month];
        }
    }

    /** What a Set-Cookie text says, before it is known what the request and the jar make of it. */
    private static final class Reader {
        final Row name;
        final Row value;
        /** Empty without a Domain attribute, which is never empty. */
        final Row domain;
        /** Empty without a Path attribute, which is never empty. */
        final Row path;
        final Row attribute;
        final Row given;
        boolean hasSign;
        boolean hasAge;
        int age;
        long date;
        boolean secure;
        boolean httpOnly;
        int siteRule;
        int rank;

        Reader() {
            name = new Row(MOST_TEXT);
            value = new Row(MOST_TEXT);
            domain = new Row(MOST_TEXT);
            path = new Row(MOST_PATH);
            attribute = new Row(MOST_TEXT);
            given = new Row(MOST_TEXT);
        }

        void read(Row text) {
            forget();
            int end = text.find(';', 0, text.length);
            readPair(text, end);
            int from = end + 1;
            for (int k = from; k <= text.length; k++) {
                if (k == text.length || text.at(k) == ';') {
                    readAttribute(text, from, k);
                    from = k + 1;
                }
            }
        }

        private void forget() {
            domain.empty();
            path.empty();
            hasAge = false;
            age = 0;
            date = NONE;
            secure = false;
            httpOnly = false;
            siteRule = SAME_SITE_LAX;
            rank = PRIORITY_MEDIUM;
        }

        private void readPair(Row text, int end) {
            int sign = text.find('=', 0, end);
            hasSign = sign < end;
            name.takeTrimmed(text, 0, sign);
            value.takeTrimmed(text, sign + 1, end);
        }

        private void readAttribute(Row text, int from, int to) {
            int sign = text.find('=', from, to);
            attribute.takeTrimmed(text, from, sign);
            attribute.toSmallLetters();
            given.takeTrimmed(text, sign + 1, to);
            if (attribute.is("expires")) {
                readExpires();
            } else if (attribute.is("max-age")) {
                readAge();
            } else if (attribute.is("domain")) {
                readDomain();
            } else if (attribute.is("path")) {
                readPath();
            } else if (attribute.is("secure")) {
                secure = true;
            } else if (attribute.is("httponly")) {
                httpOnly = true;
            } else if (attribute.is("samesite")) {
                given.toSmallLetters();
                siteRule = oneOf("none", "lax", "strict", siteRule);
            } else if (attribute.is("priority")) {
                given.toSmallLetters();
                rank = oneOf("low", "medium", "high", rank);
            }
        }

        private int oneOf(String first, String second, String third, int otherwise) {
            if (given.is(first)) {
                return 0;
            }
            if (given.is(second)) {
                return 1;
            }
            return given.is(third) ? 2 : otherwise;
        }

        private void readExpires() {
            long read = Dates.read(given);
            if (read >= 0) {
                date = read;
            }
        }

        private void readAge() {
            boolean negative = given.at(0) == '-';
            int from = negative ? 1 : 0;
            int digits = given.length - from;
            if (digits < 1 || digits > 9) {
                return;
            }
            int number = given.number(from, given.length);
            if (number >= 0) {
                hasAge = true;
                age = negative ? -number : number;
            }
        }

        private void readDomain() {
            int from = given.at(0) == '.' ? 1 : 0;
            if (given.length > from) {
                domain.take(given, from, given.length);
                domain.toSmallLetters();
            }
        }

        private void readPath() {
            if (given.at(0) == '/' && given.length <= MOST_PATH) {
                path.copy(given);
            }
        }

        boolean isExpiredAt(long now) {
            return hasAge ? age <= 0 : date >= 0 && date <= now;
        }

        long expiryAt(long now) {
            if (hasAge) {
                return now + Math.min(age, MOST_AGE);
            }
            return date >= 0 ? Math.min(date, now + MOST_AGE) : NONE;
        }
    }

    private static final class Cookie {
        final Row name;
        final Row value;
        final Row domain;
        final Row path;
        long expiresAt;
        long createdAt;
        long accessedAt;
        int number;
        boolean hostOnly;
        boolean secure;
        boolean httpOnly;
        int siteRule;
        int rank;

        Cookie() {
            name = new Row(MOST_NAME);
            value = new Row(MOST_VALUE);
            domain = new Row(MOST_DOMAIN);
            path = new Row(MOST_PATH);
        }

        void become(Cookie other) {
            name.copy(other.name);
            value.copy(other.value);
            domain.copy(other.domain);
            path.copy(other.path);
            expiresAt = other.expiresAt;
            createdAt = other.createdAt;
            accessedAt = other.accessedAt;
            number = other.number;
            hostOnly = other.hostOnly;
            secure = other.secure;
            httpOnly = other.httpOnly;
            siteRule = other.siteRule;
            rank = other.rank;
        }

        /** The order of the list; 0 for cookies that are never in the jar together. */
        int compareInList(Cookie other) {
            int order = Domains.compare(domain, other.domain);
            if (order == 0) {
                order = path.compare(other.path);
            }
            if (order == 0) {
                order = name.compare(other.name);
            }
            if (order == 0 && hostOnly != other.hostOnly) {
                order = hostOnly ? 1 : -1;
            }
            return order;
        }

        boolean isVictimBefore(Cookie other, int policy) {
            if (rank != other.rank) {
                return rank < other.rank;
            }
            if (secure != other.secure) {
                return other.secure;
            }
            int order = Long.compare(weight(policy), other.weight(policy));
            return order != 0 ? order < 0 : number < other.number;
        }

        /** What the policy looks at, so that the smallest weight comes first. */
        private long weight(int policy) {
            if (policy == BY_ACCESS) {
                return accessedAt;
            }
            if (policy == BY_CREATION) {
                return createdAt;
            }
            if (policy == BY_EXPIRY) {
                return expiresAt == NONE ? BEHIND_ALL : expiresAt;
            }
            return -(name.length + value.length);
        }

        boolean isSentBefore(Cookie other) {
            if (path.length != other.path.length) {
                return path.length > other.path.length;
            }
            return number < other.number;
        }

        /** Whether a new cookie that is not secure would lie over or under this secure one. */
        boolean guardsAgainst(Cookie fresh) {
            return secure && name.same(fresh.name)
                    && (domain.domainMatches(fresh.domain) || fresh.domain.domainMatches(domain))
                    && fresh.path.pathMatches(path);
        }

        long mix(long before) {
            long sum = path.mix(domain.mix(value.mix(name.mix(before))));
            sum = 31 * sum + expiresAt;
            sum = 31 * sum + createdAt;
            sum = 31 * sum + accessedAt;
            return 31 * sum + number;
        }
    }

    /** All that a snapshot keeps. */
    private static final class Jar {
        /** The first ones, as many as the size says, are in the jar, in order; the others are spare. */
        final Cookie[] cookies;
        int size;
        final Cookie fresh;
        final int[] sending;
        final Suffixes suffixes;
        final Address page;
        final Address request;
        final Row header;
        final int[] limits;
        final int[] counts;
        int policy;
        int cause;
        long now;

        Jar() {
            cookies = new Cookie[SLOTS];
            for (int i = 0; i < SLOTS; i++) {
                cookies[i] = new Cookie();
            }
            size = 0;
            fresh = new Cookie();
            sending = new int[SLOTS];
            suffixes = new Suffixes();
            page = new Address();
            request = new Address();
            header = new Row(MOST_HEADER);
            limits = new int[LIMITS];
            limits[SITE_LIMIT] = 5;
            limits[JAR_LIMIT] = 20;
            counts = new int[EVENTS];
            policy = BY_ACCESS;
            cause = 0;
            now = 0;
        }

        void become(Jar other) {
            size = other.size;
            for (int i = 0; i < size; i++) {
                cookies[i].become(other.cookies[i]);
            }
            suffixes.become(other.suffixes);
            page.become(other.page);
            request.become(other.request);
            header.copy(other.header);
            for (int i = 0; i < LIMITS; i++) {
                limits[i] = other.limits[i];
            }
            for (int i = 0; i < EVENTS; i++) {
                counts[i] = other.counts[i];
            }
            policy = other.policy;
            cause = other.cause;
            now = other.now;
        }

        boolean isCrossSite() {
            return page.open && (page.https != request.https || !suffixes.sameSites(page.host, request.host));
        }

        // ---- receiving

        /** Answers as receive() does. */
        int accept(Reader reader, boolean script) {
            cause = causeInText(reader);
            if (cause == 0) {
                cause = causeInDomain(reader.domain);
            }
            if (cause != 0) {
                return reject();
            }
            shape(reader);
            int place = place();
            boolean known = isAt(place);
            cause = causeInProperties(script);
            if (cause == 0 && script && known && cookies[place].httpOnly) {
                cause = 62;
            }
            if (cause != 0) {
                return reject();
            }
            if (reader.isExpiredAt(now)) {
                return known ? expire(place) : ignore();
            }
            return known ? replace(place) : create(place);
        }

        private int reject() {
            counts[WAS_REJECTED]++;
            return DROPPED;
        }

        private int ignore() {
            counts[WAS_IGNORED]++;
            return DROPPED;
        }

        private int expire(int place) {
            drop(place);
            counts[WAS_REMOVED]++;
            return REMOVED;
        }

        private int replace(int place) {
            fresh.number = cookies[place].number;
            fresh.createdAt = cookies[place].createdAt;
            cookies[place].become(fresh);
            counts[WAS_REPLACED]++;
            return REPLACED;
        }

        private int create(int place) {
            // the limits leave a slot free between two calls, so that this never happens
            if (size >= SLOTS || place > size) {
                return DROPPED;
            }
            Cookie spare = cookies[size];
            for (int k = size; k > place; k--) {
                cookies[k] = cookies[k - 1];
            }
            cookies[place] = spare;
            size++;
            spare.become(fresh);
            counts[WAS_CREATED]++;
            return CREATED;
        }

        private static int causeInText(Reader reader) {
            if (!reader.hasSign) {
                return 11;
            }
            if (reader.name.length == 0) {
                return 12;
            }
            return reader.name.length > MOST_NAME || reader.value.length > MOST_VALUE ? 13 : 0;
        }

        private int causeInDomain(Row domain) {
            if (domain.length == 0) {
                return 0;
            }
            if (!Domains.isDomain(domain)) {
                return 22;
            }
            if (suffixes.isPublic(domain)) {
                return domain.same(request.host) ? 0 : 21;
            }
            return request.host.domainMatches(domain) ? 0 : 22;
        }

        private void shape(Reader reader) {
            fresh.name.copy(reader.name);
            fresh.value.copy(reader.value);
            fresh.hostOnly = reader.domain.length == 0 || suffixes.isPublic(reader.domain);
            fresh.domain.copy(fresh.hostOnly ? request.host : reader.domain);
            if (reader.path.length > 0) {
                fresh.path.copy(reader.path);
            } else {
                takeDefaultPath(fresh.path);
            }
            fresh.expiresAt = reader.expiryAt(now);
            fresh.createdAt = now;
            fresh.accessedAt = now;
            fresh.number = counts[WAS_CREATED];
            fresh.secure = reader.secure;
            fresh.httpOnly = reader.httpOnly;
            fresh.siteRule = reader.siteRule;
            fresh.rank = reader.rank;
        }

        private void takeDefaultPath(Row path) {
            int slash = request.path.length - 1;
            while (slash > 0 && request.path.at(slash) != '/') {
                slash--;
            }
            path.take(request.path, 0, slash);
            if (path.length == 0) {
                path.add('/');
            }
        }

        private int causeInProperties(boolean script) {
            if (fresh.secure && !request.https) {
                return 31;
            }
            if (fresh.httpOnly && script) {
                return 61;
            }
            if (!fresh.secure && !request.https && isGuarded()) {
                return 32;
            }
            if (fresh.siteRule == SAME_SITE_NONE && !fresh.secure) {
                return 51;
            }
            if (fresh.name.begins("__Secure-") && !fresh.secure) {
                return 41;
            }
            boolean ofHost = fresh.secure && fresh.hostOnly && fresh.path.is("/");
            return fresh.name.begins("__Host-") && !ofHost ? 42 : 0;
        }

        private boolean isGuarded() {
            for (int i = 0; i < size; i++) {
                if (cookies[i].guardsAgainst(fresh)) {
                    return true;
                }
            }
            return false;
        }

        /** The index of the first cookie that does not come before the fresh one, or the size. */
        private int place() {
            int i = 0;
            while (i < size && cookies[i].compareInList(fresh) < 0) {
                i++;
            }
            return i;
        }

        private boolean isAt(int place) {
            return place < size && cookies[place].compareInList(fresh) == 0;
        }

        void drop(int i) {
            if (i < 0 || i >= size) {
                return;
            }
            Cookie spare = cookies[i];
            for (int k = i; k < size - 1; k++) {
                cookies[k] = cookies[k + 1];
            }
            cookies[size - 1] = spare;
            size--;
        }

        // ---- limits

        /** Comes behind accept(), for the sake of the cookie that was created or replaced by it. */
        void evict() {
            for (int over = sizeOfSite(fresh.domain) - limits[SITE_LIMIT]; over > 0; over--) {
                dropVictim(victimOfSite(fresh.domain, fresh.number));
            }
            for (int over = size - limits[JAR_LIMIT]; over > 0; over--) {
                dropVictim(victimOfAll(fresh.number));
            }
        }

        private void dropVictim(int i) {
            if (i >= 0) {
                drop(i);
                counts[WAS_EVICTED]++;
            }
        }

        private int sizeOfSite(Row domain) {
            int n = 0;
            for (int i = 0; i < size; i++) {
                if (suffixes.sameSites(cookies[i].domain, domain)) {
                    n++;
                }
            }
            return n;
        }

        private int victimOfSite(Row domain, int spared) {
            int found = NONE;
            for (int i = 0; i < size; i++) {
                if (suffixes.sameSites(cookies[i].domain, domain)) {
                    found = victimOf(found, i, spared);
                }
            }
            return found;
        }

        /** The index of the victim among all cookies but the one with the spared serial number. */
        int victimOfAll(int spared) {
            int found = NONE;
            for (int i = 0; i < size; i++) {
                found = victimOf(found, i, spared);
            }
            return found;
        }

        private int victimOf(int found, int i, int spared) {
            if (cookies[i].number == spared) {
                return found;
            }
            return found < 0 || cookies[i].isVictimBefore(cookies[found], policy) ? i : found;
        }

        // ---- sending

        boolean goes(Cookie cookie, boolean crossSite, boolean navigation, boolean script) {
            Row host = request.host;
            if (cookie.hostOnly ? !host.same(cookie.domain) : !host.domainMatches(cookie.domain)) {
                return false;
            }
            if (!request.path.pathMatches(cookie.path)) {
                return false;
            }
            if (cookie.secure && !request.https || cookie.httpOnly && script) {
                return false;
            }
            return !crossSite || cookie.siteRule == SAME_SITE_NONE || cookie.siteRule == SAME_SITE_LAX && navigation;
        }

        int writeHeader(boolean crossSite, boolean navigation, boolean script) {
            int sent = 0;
            for (int i = 0; i < size; i++) {
                if (goes(cookies[i], crossSite, navigation, script)) {
                    enqueue(i, sent);
                    sent++;
                }
            }
            header.empty();
            for (int n = 0; n < sent; n++) {
                writeCookie(cookies[sending[n]]);
            }
            return sent;
        }

        /** Puts a cookie among those that are sent, behind all that go before it. */
        private void enqueue(int i, int sent) {
            int k = sent;
            while (k > 0 && cookies[i].isSentBefore(cookies[sending[k - 1]])) {
                sending[k] = sending[k - 1];
                k--;
            }
            sending[k] = i;
        }

        private void writeCookie(Cookie cookie) {
            if (header.length > 0) {
                header.add(';');
                header.add(' ');
            }
            header.append(cookie.name);
            header.add('=');
            header.append(cookie.value);
            cookie.accessedAt = now;
        }

        // ---- cookies in the jar, time

        int firstNotBefore(Row domain) {
            for (int i = 0; i < size; i++) {
                if (Domains.compare(cookies[i].domain, domain) >= 0) {
                    return i;
                }
            }
            return NONE;
        }

        int dropSite(Row domain) {
            int before = size;
            for (int i = size - 1; i >= 0; i--) {
                if (suffixes.sameSites(cookies[i].domain, domain)) {
                    drop(i);
                }
            }
            return before - size;
        }

        int dropSession() {
            int before = size;
            for (int i = size - 1; i >= 0; i--) {
                if (cookies[i].expiresAt == NONE) {
                    drop(i);
                }
            }
            return before - size;
        }

        int pass(int seconds) {
            now += seconds;
            int before = size;
            for (int i = size - 1; i >= 0; i--) {
                if (cookies[i].expiresAt != NONE && cookies[i].expiresAt <= now) {
                    drop(i);
                }
            }
            counts[RAN_OUT] += before - size;
            return before - size;
        }

        long earliestExpiry() {
            long earliest = NONE;
            for (int i = 0; i < size; i++) {
                long expiry = cookies[i].expiresAt;
                if (expiry != NONE && (earliest == NONE || expiry < earliest)) {
                    earliest = expiry;
                }
            }
            return earliest;
        }

        long mix() {
            long sum = 31 * 23L + now;
            for (int i = 0; i < size; i++) {
                sum = cookies[i].mix(sum);
            }
            for (int event = 0; event < EVENTS; event++) {
                sum = 31 * sum + counts[event];
            }
            return sum;
        }
    }
}
