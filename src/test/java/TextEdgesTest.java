/** Edges of time, text, domains, suffixes, sites and addresses (promises 1 to 8), sentence by sentence. */
public final class TextEdgesTest {
    private static final String TEN = "abcdefghij";
    private static final String THIRTY = TEN + TEN + TEN;
    /** The longest path there is. */
    private static final String FORTY = "/" + THIRTY + "abcdefghi";

    public static void main(String[] args) {
        newJar();
        timeBegins();
        textIsEmptyAtFirst();
        textIsFull();
        everyCode();
        wholeTextIsRead();
        trimmed();
        lengthsOfDomains();
        labels();
        charactersOfDomains();
        matching();
        suffixesAtMost();
        longestSuffix();
        publicDomains();
        sites();
        schemes();
        pathsOfAddresses();
        queries();
        pathOfNone();
        hostsOfAddresses();
        errorPositions();
        neitherPageNorRequest();
        crossSite();
        textBehindOpening();
        siteChars();
        suffixesAndCookies();
        Calls.end();
    }

    private static String times(String row, int n) {
        return row.repeat(n);
    }

    private static void newJar() {
        Calls.sentence("Creates an empty jar at time 0.");
        CookieJar jar = new CookieJar();
        Calls.due("14 cookies()", 0, jar::cookies);
        Calls.due("33 time()", 0, jar::time);
        Calls.due("34 nextExpiry()", -1, jar::nextExpiry);
        Calls.due("37 victim()", -1, jar::victim);
        Calls.due("31 endSession()", 0, jar::endSession);
        for (int event = 0; event < 7; event++) {
            int e = event;
            Calls.due("38 count(" + e + ")", 0, () -> jar.count(e));
        }
        // what one object does is nothing to another one
        Whole.dueUnchanged("1 another object's calls", CookieJar::new, unused -> {
            CookieJar busy = Calls.jarAt("http://a.b");
            Calls.suffix(busy, "a.b");
            Calls.receive(busy, "a=1");
            busy.setLimit(0, 7);
            busy.setPolicy(2);
            busy.advance(5);
            return busy.save(0);
        });
    }

    private static void timeBegins() {
        Calls.sentence("The present time is a number of seconds, at first 0, which is 1 January 1970, 00:00:00.");
        Calls.due("33 time()", 0, () -> new CookieJar().time());
        CookieJar jar = Calls.jarAt("http://a.b");
        Calls.due("9 at time 0", 0, () -> Calls.receive(jar, "a=1;Expires=01 Jan 1970 00:00:00"));
        Calls.due("38 expired", 1, () -> jar.count(6));
        Calls.due("9 a second later", 1, () -> Calls.receive(jar, "a=1;Expires=01 Jan 1970 00:00:01"));
        Calls.due("19 expiry", 1, () -> jar.expiry(0));
    }

    private static void textIsEmptyAtFirst() {
        Calls.sentence("initially empty");
        Calls.due("3 clearText()", 0, () -> new CookieJar().clearText());
        Calls.due("2 the first character", 1, () -> new CookieJar().type('a'));
        Calls.due("4 the empty text is no address", -1, () -> new CookieJar().openPage());
        Calls.due("5 the empty text is no address", -1, () -> new CookieJar().openRequest());
        Calls.due("8 the empty text is no domain", Calls.BAD_ARGUMENT, () -> new CookieJar().addSuffix());
        Calls.due("28 the empty text is no domain", Calls.BAD_ARGUMENT, () -> new CookieJar().firstFrom());
        CookieJar jar = Calls.jarAt("http://a.b");
        Calls.due("9 the empty text is no cookie", 0, () -> jar.receive(false));
        Calls.due("10 by the first cause", 11, () -> jar.rejection(1));
    }

    private static void textIsFull() {
        Calls.sentence("a buffer of at most 160 characters");
        CookieJar jar = new CookieJar();
        for (int n = 1; n <= 160; n++) {
            Calls.due("2 character " + n, n, () -> jar.type('x'));
        }
        Calls.due("2 one more", Calls.BAD_STATE, () -> jar.type('x'));
        Calls.due("2 and again", Calls.BAD_STATE, () -> jar.type('x'));
        Calls.sentence("Returns the length that it had.");
        Calls.due("3 of the full text", 160, jar::clearText);
        Calls.due("3 of none", 0, jar::clearText);
        Calls.due("2 there is room again", 1, () -> jar.type('x'));
        Calls.due("3 of one", 1, jar::clearText);
    }

    private static void everyCode() {
        Calls.sentence("with codes from 32 to 126");
        for (int code = -3; code <= 300; code++) {
            int c = code;
            boolean good = c >= 32 && c <= 126;
            CookieJar jar = Calls.jarAt("http://a.b");
            Calls.type(jar, "a=x");
            Calls.due("2 type(" + c + ")", good ? 4 : Calls.BAD_ARGUMENT, () -> jar.type(c));
            Calls.type(jar, "x");
            Calls.due("9 received", 1, () -> jar.receive(false));
            String want = !good ? "xx" : c == ';' ? "x" : "x" + (char) c + "x";
            Calls.due("2 stays as it is", want, Calls.value(jar, 0));
        }
    }

    /** What stands at the very end of a full text counts. */
    private static void wholeTextIsRead() {
        Calls.sentence("Other methods read it as an address, a domain or a cookie.");
        CookieJar jar = Calls.jarAt("https://a.b");
        String cookie = "a=1;" + times("x", 149) + ";Secure";
        Calls.due("2 the text is full", 160, () -> cookie.length());
        Calls.due("9 received", 1, () -> Calls.receive(jar, cookie));
        Calls.due("24 its last attribute", true, jar.isSecure(0));
        String address = "https://a.b/?" + times("?", 147);
        Calls.due("2 the text is full", 160, () -> address.length());
        Calls.due("5 opened", 1, () -> Calls.request(jar, address));
        CookieJar other = new CookieJar();
        Calls.due("5 not opened", -38, () -> Calls.request(other, "http://" + times("a", 153)));
        Calls.due("8 no domain", Calls.BAD_ARGUMENT, () -> Calls.suffix(other, times("a", 160)));
        Calls.due("28 no domain", Calls.BAD_ARGUMENT, () -> Calls.firstFrom(other, times("a.", 80)));
    }

    private static void trimmed(String cookie, String name, String value) {
        CookieJar jar = Calls.jarAt("http://a.b/x/y");
        Calls.due("9 \"" + cookie + "\"", 1, () -> Calls.receive(jar, cookie));
        Calls.due("15 name of \"" + cookie + "\"", name, Calls.name(jar, 0));
        Calls.due("16 value of \"" + cookie + "\"", value, Calls.value(jar, 0));
    }

    private static void trimmed() {
        Calls.sentence("To trim a string means to remove all blanks (code 32) at its beginning and its end.");
        trimmed("a=b", "a", "b");
        trimmed(" a=b ", "a", "b");
        trimmed("a = b", "a", "b");
        trimmed(times(" ", 30) + "a" + times(" ", 30) + "=" + times(" ", 30) + "b" + times(" ", 30), "a", "b");
        trimmed(" a  a = b  b ", "a  a", "b  b");
        trimmed("a= ", "a", "");
        trimmed("a=" + times(" ", 150), "a", "");
        trimmed("a=    ;Secured", "a", "");
        trimmed("! = !", "!", "!");
    }

    /** A text is a domain, or is none, for each method that reads one. */
    private static void domain(String text, boolean is) {
        CookieJar suffix = new CookieJar();
        Calls.due("8 \"" + text + "\"", is ? 1 : Calls.BAD_ARGUMENT, () -> Calls.suffix(suffix, text));
        CookieJar first = new CookieJar();
        Calls.due("28 \"" + text + "\"", is ? -1 : Calls.BAD_ARGUMENT, () -> Calls.firstFrom(first, text));
        CookieJar page = new CookieJar();
        Calls.due("4 \"" + text + "\"", is, Calls.page(page, "https://" + text) == 1);
        CookieJar request = new CookieJar();
        Calls.due("5 \"" + text + "\"", is, Calls.request(request, "http://" + text) == 0);
    }

    private static void lengthsOfDomains() {
        Calls.sentence("A domain has 1 to 30 characters");
        domain("", false);
        domain("a", true);
        domain("aa", true);
        domain(THIRTY.substring(1), true);
        domain(THIRTY, true);
        domain(THIRTY + "a", false);
        domain(THIRTY.substring(2) + ".a", true);
        domain(THIRTY.substring(1) + ".a", false);
        domain("a." + THIRTY.substring(2), true);
        domain("a." + THIRTY.substring(1), false);
        domain(times("a.", 14) + "a", true);
        domain(times("a.", 14) + "aa", true);
        domain(times("a.", 15) + "a", false);
        domain(times("a.", 15), false);
        domain(TEN + TEN + TEN + TEN + TEN, false);

        CookieJar jar = Calls.jarAt("http://" + THIRTY.substring(2) + ".a");
        Calls.due("9 Domain of 30", 1, () -> Calls.receive(jar, "a=1;Domain=" + THIRTY.substring(2) + ".a"));
        Calls.due("17 is kept whole", THIRTY.substring(2) + ".a", Calls.domain(jar, 0));
        Calls.due("17 character 29", 'a', () -> jar.domainChar(0, 29));
        Calls.due("17 character 30", -1, () -> jar.domainChar(0, 30));
        Calls.due("9 Domain of 31", 0, () -> Calls.receive(jar, "a=1;Domain=" + THIRTY.substring(1) + ".a"));
        Calls.due("10 is none", 22, () -> jar.rejection(1));
        Calls.due("9 public Domain of 31", 0, () -> Calls.receive(jar, "a=1;Domain=" + THIRTY + "a"));
        Calls.due("10 is none, and not public", 22, () -> jar.rejection(1));
        Calls.due("9 public Domain of 30", 0, () -> Calls.receive(jar, "a=1;Domain=" + THIRTY));
        Calls.due("10 is public", 21, () -> jar.rejection(1));
    }

    private static void labels() {
        Calls.sentence("one or more labels with dots between them; a label has one or more of the characters");
        domain(".", false);
        domain("..", false);
        domain("a.", false);
        domain(".a", false);
        domain("a..a", false);
        domain("a.a.", false);
        domain(".a.a", false);
        domain("a.a", true);
        domain("a.a.a", true);
        domain("a.a..a", false);
        domain("-", true);
        domain("-.-", true);
        domain("--", true);
        domain("0.0.0.0", true);
    }

    private static void charactersOfDomains() {
        Calls.sentence("a label has one or more of the characters a to z, 0 to 9 and -");
        for (char c = 32; c <= 126; c++) {
            boolean good = c >= 'a' && c <= 'z' || c >= '0' && c <= '9' || c == '-';
            // "/" and "?" end the host of an address, which is not said of a suffix
            if (c != '/' && c != '?') {
                domain(String.valueOf(c), good);
                domain("a" + c + "a", good || c == '.');
                domain("a" + c, good);
                domain(c + "a", good);
            }
        }
        for (String text : new String[] {"/", "?", "a/a", "a?a", "a/", "a?"}) {
            Calls.due("8 " + text, Calls.BAD_ARGUMENT, () -> Calls.suffix(new CookieJar(), text));
            Calls.due("28 " + text, Calls.BAD_ARGUMENT, () -> Calls.firstFrom(new CookieJar(), text));
        }
    }

    /** Whether a host matches a domain shows by the cookies that it may set. */
    private static void matches(String host, String domain, boolean want) {
        CookieJar jar = Calls.jarAt("http://" + host);
        Calls.due("9 " + domain + " by " + host, want ? 1 : 0, () -> Calls.receive(jar, "a=1;Domain=" + domain));
        Calls.due("10 its cause", want ? 0 : 22, () -> jar.rejection(1));
    }

    private static void matching() {
        Calls.sentence("A domain d matches a domain e if both are equal, or d ends with a dot followed by e.");
        matches("a.b", "a.b", true);
        matches("x.a.b", "a.b", true);
        matches("y.x.a.b", "a.b", true);
        matches("y.x.a.b", "x.a.b", true);
        matches("xa.b", "a.b", false);
        matches("x-a.b", "a.b", false);
        matches("a.b", "x.a.b", false);
        matches("a.b", "xa.b", false);
        matches("a.b", "c.b", false);
        matches("a.b.c", "a.b", false);
        matches("a.b", "a.c", false);
        matches("b.a", "a.b", false);
        matches("aa.b", "a.b", false);
        matches(times("a.", 14) + "b", "a.b", true);
        matches(times("a.", 14) + "b", times("a.", 14) + "b", true);
        matches(times("a.", 14) + "b", times("a.", 13) + "b", true);
    }

    private static void suffixesAtMost() {
        Calls.sentence("There are at most 6 suffixes, which are domains, initially none.");
        CookieJar jar = new CookieJar();
        for (int n = 1; n <= 6; n++) {
            String suffix = "s" + n;
            Calls.due("8 suffix " + n, n, () -> Calls.suffix(jar, suffix));
            Calls.due("8 and the same again", Calls.BAD_ARGUMENT, () -> Calls.suffix(jar, suffix));
        }
        Calls.due("8 suffix 7", Calls.BAD_STATE, () -> Calls.suffix(jar, "s7"));
        for (int n = 1; n <= 6; n++) {
            Calls.request(jar, "http://a.s" + n);
            Calls.due("7 with its site", "a.s" + n, Calls.site(jar));
        }
        CookieJar last = Calls.jarAt("http://x.y.6.z");
        for (int n = 1; n <= 6; n++) {
            Calls.suffix(last, n + ".z");
        }
        Calls.due("7 the last of them counts", "y.6.z", Calls.site(last));
        Calls.request(last, "http://x.y.1.z");
        Calls.due("7 the first of them counts", "y.1.z", Calls.site(last));
    }

    private static void site(String host, String want, String... suffixes) {
        CookieJar jar = Calls.jarAt("http://" + host);
        for (String suffix : suffixes) {
            Calls.suffix(jar, suffix);
        }
        Calls.due("7 site of " + host, want, Calls.site(jar));
    }

    private static void longestSuffix() {
        Calls.sentence("The public suffix of a domain is the longest suffix that the domain matches; if there is none, "
                + "its last label.");
        site("d.c.b.a", "b.a");
        site("d.c.b.a", "b.a", "a");
        site("d.c.b.a", "c.b.a", "b.a");
        site("d.c.b.a", "c.b.a", "a", "b.a");
        site("d.c.b.a", "c.b.a", "b.a", "a");
        site("d.c.b.a", "d.c.b.a", "c.b.a", "b.a", "a");
        site("d.c.b.a", "d.c.b.a", "a", "c.b.a", "b.a");
        site("d.c.b.a", "d.c.b.a", "d.c.b.a");
        site("d.c.b.a", "b.a", "e.d.c.b.a");
        site("d.c.b.a", "b.a", "c", "c.b", "d", "d.c.b");
        site("d.cb.a", "cb.a", "b.a");
        site("b.a", "b.a", "c.b.a");
        site("x.-.a", "x.-.a", "-.a");
        site(THIRTY.substring(2) + ".a", THIRTY.substring(2) + ".a", THIRTY.substring(2) + ".a");
        site(times("a.", 14) + "a", times("a.", 14) + "a", times("a.", 13) + "a");
        site(times("a.", 14) + "a", times("a.", 13) + "a", times("a.", 12) + "a");
    }

    /** A public domain may be the Domain of a cookie only if it is the host, and makes it host-only then. */
    private static void isPublic(String host, String domain, boolean want, String... suffixes) {
        CookieJar jar = Calls.jarAt("http://" + host);
        for (String suffix : suffixes) {
            Calls.suffix(jar, suffix);
        }
        boolean isHost = host.equals(domain);
        Calls.due("9 " + domain + " by " + host, want && !isHost ? 0 : 1,
                () -> Calls.receive(jar, "a=1;Domain=" + domain));
        Calls.due("10 its cause", want && !isHost ? 21 : 0, () -> jar.rejection(1));
        if (isHost || !want) {
            Calls.due("23 host-only", want, jar.isHostOnly(0));
        }
    }

    private static void publicDomains() {
        Calls.sentence("A domain is public if it equals its public suffix.");
        isPublic("b.a", "a", true);
        isPublic("a", "a", true);
        isPublic("b.a", "b.a", false);
        isPublic("b.a", "b.a", true, "b.a");
        isPublic("c.b.a", "b.a", true, "b.a");
        isPublic("c.b.a", "a", true, "b.a");
        isPublic("c.b.a", "b.a", false, "c.b.a");
        isPublic("c.b.a", "c.b.a", true, "c.b.a");
        isPublic("c.b.a", "b.a", false, "a");
        isPublic("c.b.a", "b.a", true, "c.b.a", "b.a");
        isPublic("c.b.a", "c.b.a", true, "b.a", "c.b.a");
    }

    private static void sites() {
        Calls.sentence("The site of a domain is the domain itself if it is public; otherwise its public suffix with "
                + "one more label and its dot before it.");
        site("a", "a");
        site("a", "a", "a");
        site("b.a", "b.a");
        site("b.a", "b.a", "b.a");
        site("c.b.a", "c.b.a", "b.a");
        site("d.c.b.a", "c.b.a", "b.a");
        site("dd.cc.bb.aa", "cc.bb.aa", "bb.aa");
        site("e.dd.cc.bb.aa", "cc.bb.aa", "bb.aa");
        site(THIRTY, THIRTY);
        site("a." + THIRTY.substring(2), "a." + THIRTY.substring(2));
    }

    /** Both methods read alike; where it says -1 minus a position, the text stays. */
    private static void address(String text, int want) {
        CookieJar page = new CookieJar();
        Calls.due("4 \"" + text + "\"", want, () -> Calls.page(page, text));
        Calls.due("4 the text then", want < 0 ? text.length() : 0, page::clearText);
        CookieJar request = new CookieJar();
        Calls.due("5 \"" + text + "\"", want, () -> Calls.request(request, text));
        Calls.due("5 the text then", want < 0 ? text.length() : 0, request::clearText);
    }

    private static void schemes() {
        Calls.sentence("An address consists of \"http://\" or \"https://\", a domain (its host), and perhaps a path");
        address("http://a", 0);
        address("https://a", 1);
        address("http://https", 0);
        address("https://http", 1);
        address("HTTP://a", -1);
        address("hTtp://a", -2);
        address("httpS://a", -5);
        address("httpss://a", -6);
        address("ftp://a", -1);
        address("http://http://a", -12);
        address("http:// a", -8);
        address("http://a ", -9);
        address("ahttp://a", -1);
    }

    private static void pathsOfAddresses() {
        Calls.sentence("\"/\" and any characters except \"?\", at most 40 characters together");
        address("http://a/", 0);
        address("http://a" + FORTY.substring(0, 39), 0);
        address("http://a" + FORTY, 0);
        address("http://a" + FORTY + "x", -49);
        address("http://a" + FORTY + "/", -49);
        address("http://a" + FORTY + " ", -49);
        address("http://a" + FORTY + "xyz?", -49);
        address("http://a" + times("/", 40), 0);
        address("http://a" + times("/", 41), -49);
        address("https://" + THIRTY + FORTY, 1);
        address("https://" + THIRTY + FORTY + "x", -79);
        for (char c = 32; c <= 126; c++) {
            address("http://a/" + c, 0);
        }
        // blanks are of the path, wherever they stand
        CookieJar blank = Calls.jarAt("http://a.b/x /y ");
        Calls.due("9 for a path with blanks", 1, () -> Calls.receive(blank, "a=1"));
        Calls.due("18 up to the last slash", "/x ", Calls.path(blank, 0));
        Calls.due("9 for one without", 1, () -> Calls.receive(blank, "b=1;Path=/x /y"));
        Calls.due("11 only the first goes", 1, () -> blank.send(false, false));
        Calls.due("12 only the first goes", "a=1", Calls.header(blank));
        CookieJar jar = Calls.jarAt("http://a.b" + FORTY);
        Calls.due("9 for all of the path", 1, () -> Calls.receive(jar, "a=1;Path=" + FORTY));
        Calls.due("11 goes", 1, () -> jar.send(false, false));
        Calls.request(jar, "http://a.b" + FORTY.substring(0, 39));
        Calls.due("11 does not go with one less", 0, () -> jar.send(false, false));
        Calls.request(jar, "http://a.b" + FORTY.substring(0, 39) + "x");
        Calls.due("11 nor with another last character", 0, () -> jar.send(false, false));
    }

    private static void queries() {
        Calls.sentence("after that, there may be a \"?\" followed by any characters, which are ignored");
        address("http://a?", 0);
        address("http://a/?", 0);
        address("http://a??", 0);
        address("http://a?/?/", 0);
        address("http://a" + FORTY + "?", 0);
        address("http://a" + FORTY + "?" + times("x", 100), 0);
        address("https://" + THIRTY + "?" + times("/", 100), 1);
        for (char c = 32; c <= 126; c++) {
            address("https://a?" + c, 1);
            address("https://a/x?" + c, 1);
        }
        CookieJar jar = Calls.jarAt("http://a.b/x/y?/z/");
        Calls.due("9 received", 1, () -> Calls.receive(jar, "a=1"));
        Calls.due("18 the query is not of the path", "/x", Calls.path(jar, 0));
        Calls.request(jar, "http://a.b?/x/y");
        Calls.due("11 nor stands for one", 0, () -> jar.send(false, false));
    }

    private static void pathOfNone() {
        Calls.sentence("Without a path, the path is \"/\".");
        for (String address : new String[] {"http://a.b", "http://a.b?", "http://a.b?/x", "http://a.b/"}) {
            CookieJar jar = Calls.jarAt(address);
            Calls.due("9 for /", 1, () -> Calls.receive(jar, "a=1;Path=/"));
            Calls.due("9 for /x", 1, () -> Calls.receive(jar, "b=1;Path=/x"));
            Calls.due("11 one goes", 1, () -> jar.send(false, false));
            Calls.due("12 is that for /", "a=1", Calls.header(jar));
        }
    }

    private static void hostsOfAddresses() {
        Calls.sentence("the index of the first character c such that no address (of any length) begins with the "
                + "characters up to and including c");
        address("http://" + THIRTY, 0);
        address("http://" + THIRTY + "a", -38);
        address("http://" + THIRTY + ".", -38);
        address("http://" + THIRTY + "/a", 0);
        // a label must follow a dot, so that the thirtieth character cannot be one
        address("http://" + THIRTY.substring(1) + ".", -37);
        address("http://" + THIRTY.substring(1) + ".a", -37);
        address("http://" + THIRTY.substring(2) + ".", -37);
        address("http://" + THIRTY.substring(2) + ".a", 0);
        address("http://" + THIRTY.substring(2) + ".a/", 0);
        address("http://" + THIRTY.substring(2) + ".aa", -38);
        address("http://" + THIRTY.substring(2) + ".a.", -38);
        address("http://" + THIRTY.substring(2) + "./", -37);
        address("http://" + THIRTY.substring(3) + ".", -36);
        address("http://" + times("a.", 15), -37);
        address("https://" + times("a.", 14) + "a", 1);
        address("https://" + times("a.", 14) + "aa", 1);
        address("https://" + times("a.", 14) + "a.", -38);
        address("http://.", -8);
        address("http:///", -8);
        address("http://?", -8);
        address("http://a..", -10);
        address("http://a./", -10);
        address("http://a.?", -10);
        address("http://a.b..", -12);
        for (char c = 32; c <= 126; c++) {
            boolean label = c >= 'a' && c <= 'z' || c >= '0' && c <= '9' || c == '-';
            address("http://" + c + "~", label ? -9 : -8);
            address("http://a" + c + "/", label || c == '/' || c == '?' ? 0 : c == '.' ? -10 : -9);
        }
        // several characters are wrong, the first one counts
        address("http://A_B", -8);
        address("xttp://", -1);
        address("http:?/a", -6);
    }

    private static void errorPositions() {
        Calls.sentence("or the length of the text if there is no such character");
        for (String whole : new String[] {"http://", "https://", "http://a.", "https://a.b.c.", "http://-.0."}) {
            for (int n = 0; n <= whole.length(); n++) {
                String beginning = whole.substring(0, n);
                boolean isAddress = n > 0 && n > whole.indexOf("//") + 2 && beginning.charAt(n - 1) != '.';
                address(beginning, isAddress ? whole.indexOf(':') - 4 : -1 - n);
            }
        }
        Calls.sentence("-1 minus the error position if the text is not an address");
        String scheme = "https://";
        for (int at = 0; at < scheme.length(); at++) {
            address(scheme.substring(0, at) + "x" + scheme.substring(at) + "a", -1 - at);
            address(scheme.substring(0, at) + "~" + scheme.substring(at + 1) + "a", -1 - at);
        }
        address("http:s//a", -6);
        address("http/://a", -5);
        address("http:/s/a", -7);
    }

    private static void neitherPageNorRequest() {
        Calls.sentence("There can be a page and a request, which are addresses; initially there is neither.");
        CookieJar jar = new CookieJar();
        Calls.due("6 no request", Calls.BAD_STATE, () -> jar.isSameSite() ? 1 : 0);
        Calls.page(jar, "http://a.b");
        Calls.due("6 a page is no request", Calls.BAD_STATE, () -> jar.isSameSite() ? 1 : 0);
        Calls.due("7 a page is no request", Calls.BAD_STATE, () -> jar.siteChar(0));
        CookieJar other = Calls.jarAt("http://a.b");
        Calls.due("6 no page", true, other.isSameSite());
        Calls.due("4 not an address", -10, () -> Calls.page(other, "http://c."));
        Calls.due("6 still no page", true, other.isSameSite());
        CookieJar third = new CookieJar();
        Calls.due("5 not an address", -10, () -> Calls.request(third, "http://c."));
        Calls.due("6 still no request", Calls.BAD_STATE, () -> third.isSameSite() ? 1 : 0);
    }

    private static void crossSite(String page, String request, boolean cross, String... suffixes) {
        CookieJar jar = Calls.jarAt(request);
        for (String suffix : suffixes) {
            Calls.suffix(jar, suffix);
        }
        Calls.page(jar, page);
        Calls.due("6 " + page + " to " + request, !cross, jar.isSameSite());
        CookieJar back = Calls.jarAt(page);
        for (String suffix : suffixes) {
            Calls.suffix(back, suffix);
        }
        Calls.page(back, request);
        Calls.due("6 " + request + " to " + page, !cross, back.isSameSite());
    }

    private static void crossSite() {
        Calls.sentence("The request is cross-site if there is a page, and the sites of both hosts are different or one "
                + "is \"http\" and the other one \"https\"; otherwise it is same-site.");
        Calls.due("6 no page", true, Calls.jarAt("https://a.b").isSameSite());
        crossSite("http://a.b", "http://a.b", false);
        crossSite("https://a.b", "https://a.b", false);
        crossSite("https://a.b", "http://a.b", true);
        crossSite("http://x.a.b", "http://a.b", false);
        crossSite("http://x.a.b", "http://y.a.b/p?q", false);
        crossSite("http://a.b", "http://c.b", true);
        crossSite("http://a.b", "http://a.c", true);
        crossSite("http://a.b", "http://b", true);
        crossSite("http://aa.b", "http://a.b", true);
        crossSite("http://b", "http://b", false);
        crossSite("http://x.a.b", "http://y.a.b", true, "a.b");
        crossSite("http://x.a.b", "http://x.a.b", false, "a.b");
        crossSite("http://x.a.b", "http://a.b", true, "a.b");
        crossSite("http://x.a.b", "http://a.b", true, "x.a.b");
        crossSite("https://a.b", "http://c.b", true);
    }

    private static void textBehindOpening() {
        Calls.sentence("The text is empty then.");
        CookieJar jar = new CookieJar();
        Calls.type(jar, "http://a.b");
        Calls.due("4 opened", 0, jar::openPage);
        Calls.due("4 opened again", -1, jar::openPage);
        Calls.due("5 nor does the request get it", -1, jar::openRequest);
        Calls.type(jar, "https://a.b");
        Calls.due("5 opened", 1, jar::openRequest);
        Calls.due("5 opened again", -1, jar::openRequest);
        Calls.due("6 both are there", false, jar.isSameSite());
        Calls.due("8 the first character", 2, () -> {
            jar.type('a');
            jar.addSuffix();
            jar.type('b');
            return jar.addSuffix();
        });
        Calls.due("8 is empty then too", 0, jar::clearText);
    }

    private static void siteChars() {
        Calls.sentence("-1 if there are not so many characters");
        CookieJar jar = Calls.jarAt("http://xyz.abc.de");
        String site = "abc.de";
        for (int k = 0; k < 40; k++) {
            int at = k;
            Calls.due("7 siteChar(" + k + ")", k < site.length() ? site.charAt(k) : -1, () -> jar.siteChar(at));
        }
        for (int k : new int[] {100, Integer.MAX_VALUE - 4, Integer.MAX_VALUE - 3, Integer.MAX_VALUE}) {
            Calls.due("7 siteChar(" + k + ")", -1, () -> jar.siteChar(k));
        }
        CookieJar most = Calls.jarAt("http://" + THIRTY);
        Calls.due("7 the last of thirty", 'j', () -> most.siteChar(29));
        Calls.due("7 behind them", -1, () -> most.siteChar(30));
        Calls.request(most, "http://b.a");
        Calls.due("7 a shorter one behind a longer one", "b.a", Calls.site(most));
    }

    private static void suffixesAndCookies() {
        Calls.sentence("Cookies in the jar stay as they are.");
        CookieJar jar = Calls.jarAt("http://x.a.b");
        Calls.receive(jar, "a=1;Domain=a.b");
        Calls.receive(jar, "b=1;Domain=x.a.b");
        long before = jar.fingerprint();
        Calls.suffix(jar, "a.b");
        Calls.suffix(jar, "x.a.b");
        Calls.due("8 nothing of them changes", before, jar::fingerprint);
        Calls.due("8 not host-only", false, jar.isHostOnly(0));
        Calls.due("8 not host-only", false, jar.isHostOnly(1));
        Calls.due("8 both go", 2, () -> jar.send(false, false));
        Calls.due("8 another one beside them", 1, () -> Calls.receive(jar, "b=2;Domain=x.a.b"));
        Calls.due("8 which is host-only", true, jar.isHostOnly(2));
    }
}
