/** The four examples of the document, call by call. */
public final class ExamplesTest {
    public static void main(String[] args) {
        cookieWithoutAttributes();
        cookieWithoutEqualsSign();
        textThatIsNotAnAddress();
        policyLimitAndSnapshot();
        Calls.end();
    }

    private static void typed(CookieJar jar, int... codes) {
        for (int k = 0; k < codes.length; k++) {
            int code = codes[k];
            Calls.due("type(" + code + ")", k + 1, () -> jar.type(code));
        }
    }

    private static void cookieWithoutAttributes() {
        CookieJar jar = new CookieJar();
        typed(jar, 104, 116, 116, 112, 58, 47, 47, 97, 46, 98);
        Calls.due("example 1, openRequest()", 0, jar::openRequest);
        typed(jar, 97, 61, 49);
        Calls.due("example 1, receive(false)", 1, () -> jar.receive(false));
        Calls.due("example 1, send(false, false)", 1, () -> jar.send(false, false));
    }

    private static void cookieWithoutEqualsSign() {
        CookieJar jar = new CookieJar();
        typed(jar, 104, 116, 116, 112, 58, 47, 47, 97);
        Calls.due("example 2, openRequest()", 0, jar::openRequest);
        typed(jar, 97);
        Calls.due("example 2, receive(false)", 0, () -> jar.receive(false));
        Calls.due("example 2, rejection(0)", 1, () -> jar.rejection(0));
        Calls.due("example 2, rejection(1)", 11, () -> jar.rejection(1));
        Calls.due("example 2, cookies()", 0, jar::cookies);
        Calls.due("example 2, send(false, true)", 0, () -> jar.send(false, true));
    }

    private static void textThatIsNotAnAddress() {
        CookieJar jar = new CookieJar();
        typed(jar, 104, 116, 112, 115, 58);
        Calls.due("example 3, openRequest()", -3, jar::openRequest);
        Calls.due("example 3, clearText()", 5, jar::clearText);
        Calls.due("example 3, isSameSite()", Calls.BAD_STATE, () -> jar.isSameSite() ? 1 : 0);
        Calls.due("example 3, count(7)", Calls.BAD_INDEX, () -> jar.count(7));
        Calls.due("example 3, save(0)", 0, () -> jar.save(0));
        Calls.due("example 3, victim()", -1, jar::victim);
    }

    private static void policyLimitAndSnapshot() {
        CookieJar jar = new CookieJar();
        Calls.due("example 4, setPolicy(2)", 0, () -> jar.setPolicy(2));
        Calls.due("example 4, setLimit(1, 41)", Calls.BAD_ARGUMENT, () -> jar.setLimit(1, 41));
        Calls.due("example 4, setLimit(1, 40)", 20, () -> jar.setLimit(1, 40));
        Calls.due("example 4, advance(7)", 0, () -> jar.advance(7));
        Calls.due("example 4, time()", 7, jar::time);
        Calls.due("example 4, restore(0)", Calls.BAD_STATE, () -> jar.restore(0));
    }
}
