/** match, and which rule is the rule of a request. */
public final class Promise11Test {
    public static void main(String[] args) {
        prefix();
        range();
        firstOne();
        header();
        noPath();
        eachCharacter();
        longPaths();
        firstError();
        nothingChanges();
        Check.end();
    }

    /** "whose prefix is a beginning of the path" */
    private static void prefix() {
        new Router().does("rule('/ab/=0')", "matched('/', 0) -> -1", "matched('/a', 0) -> -1",
                "matched('/ab', 0) -> -1", "matched('/ab/', 0) -> 0", "matched('/ab/c', 0) -> 0",
                "matched('/ab//', 0) -> 0", "matched('/abc', 0) -> -1", "matched('//ab/', 0) -> -1",
                "matched('/bb/', 0) -> -1", "matched('/ac/', 0) -> -1", "matched('/abb', 0) -> -1");
        new Router().does("rule('/=0')", "matched('/', 0) -> 0", "matched('//', 0) -> 0", "matched('/z', 0) -> 0");
    }

    /** "and whose range contains the header value" */
    private static void range() {
        for (int first = 0; first <= 9; first++) {
            for (int last = first; last <= 9; last++) {
                Router x = new Router().does("rule('/[" + first + "-" + last + "]=0') -> 0", "type('/')");
                for (int header = 0; header <= 9; header++) {
                    x.does("match(" + header + ") -> " + (header < first || header > last ? -1 : 0));
                }
            }
        }
    }

    /** "The rule of a request is the first one"; "NONE if there is no rule" */
    private static void firstOne() {
        new Router().does("matched('/', 0) -> -1", "rule('/ab[2-5]=0')", "rule('/a/[3-3]=0')", "rule('/a=0')",
                "rule('/ab=0')", "rule('//=0')", "matched('/ab', 2) -> 0", "matched('/ab', 5) -> 0",
                "matched('/ab', 1) -> 2", "matched('/ab', 6) -> 2", "matched('/abc/d', 4) -> 0",
                "matched('/a/', 3) -> 1", "matched('/a/z', 4) -> 2", "matched('/a', 3) -> 2",
                "matched('/az', 9) -> 2", "matched('/', 0) -> -1", "matched('//', 0) -> 4",
                "matched('/b', 9) -> -1", "removeRule(2)", "matched('/ab', 1) -> 2", "matched('/a', 3) -> -1");
        Situations.FULL.taken().does("matched('/c', 0) -> 0", "matched('/', 0) -> 1", "removeRule(1) * 6",
                "matched('/', 0) -> 1", "removeRule(1) -> 1", "matched('/', 0) -> -1");
    }

    /** "header: the header value, 0 to 9" */
    private static void header() {
        new Router().does("rule('/=0')", "matched('/', 0) -> 0", "matched('/', 9) -> 0", "matched('/', -1) -> -2",
                "matched('/', 10) -> -2", "matched('/', min) -> -2", "matched('/', max) -> -2");
    }

    /** "A path is not empty, begins with "/", and consists of "/" and small letters." */
    private static void noPath() {
        Router x = new Router().does("rule('/=0')");
        for (String text : new String[] {"", "a", "z", "a/", "=", "/=0", "/a[", "/a ", " /a", "/a/b/C", "/a-b/"}) {
            x.does("matched('" + text + "', 0) -> -7");
        }
    }

    /** Each of the 128 characters as the first one, the second one and the last of forty. */
    private static void eachCharacter() {
        for (int code = 0; code < 128; code++) {
            boolean good = code == '/' || code >= 'a' && code <= 'z';
            String one = "append(" + code + ", 1)";
            Router x = new Router().does("rule('/=0')", one, "match(0) -> " + (code == '/' ? 0 : -7),
                    "request(-1, 0)");
            x.does("append(47, 1)", one, "match(0) -> " + (good ? 0 : -7), "request(-1, 0)");
            x.does("append(47, 1)", one, "append(97, 1)", "match(0) -> " + (good ? 0 : -7), "request(-1, 0)");
            x.does("append(47, 39)", one, "match(0) -> " + (good ? 0 : -7));
        }
    }

    /** Paths and prefixes up to the length of the text. */
    private static void longPaths() {
        new Router().does("append(47, 1)", "append(98, 37)", "type('=0') -> 40", "addRule() -> 0",
                "append(47, 1)", "append(98, 36)", "match(0) -> -1", "append(98, 1) -> 38", "match(0) -> 0",
                "append(99, 2) -> 40", "match(0) -> 0");
    }

    /** "If several errors apply, the one that is listed first at the method is returned." */
    private static void firstError() {
        new Router().does("match(10) -> -2", "match(-1) -> -2", "match(0) -> -7", "matched('a', 10) -> -2",
                "matched('a', 0) -> -7", "matched('/a', 10) -> -2", "matched('/a', 9) -> -1");
    }

    /** "The text stays", and so does everything else. */
    private static void nothingChanges() {
        for (String text : new String[] {"", "/", "/ab", "/c", "a", "/=0", "/abz//"}) {
            Steps typed = Situations.USED.then("type('" + text + "')");
            Situations.changesNothing(typed, "match(0)", "match(9)", "match(-1) -> -2", "match(10) -> -2");
            Situations.changesNothing(Situations.FULL.then("type('" + text + "')"), "match(5)");
        }
    }
}
