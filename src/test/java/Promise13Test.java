/** foresee. */
public final class Promise13Test {
    private static final Steps ONE = Steps.of("addBackend(0, 0, 1)", "rule('/=0')");

    public static void main(String[] args) {
        header();
        zone();
        noPath();
        firstError();
        theAnswer();
        headerAndZoneOfTheAnswer();
        nothingChanges();
        Check.end();
    }

    /** "header: the header value, 0 to 9" */
    private static void header() {
        ONE.taken().does("foreseen('/', 0, 0) -> 0", "foreseen('/', 9, 0) -> 0");
        refused("/", "foresee(-1, 0) -> -2", "foresee(10, 0) -> -2", "foresee(min, 0) -> -2",
                "foresee(max, 0) -> -2");
    }

    /** "zone: the zone, 0 to 2" */
    private static void zone() {
        ONE.taken().does("foreseen('/', 0, 0) -> 0", "foreseen('/', 0, 2) -> 0");
        refused("/", "foresee(0, -1) -> -2", "foresee(0, 3) -> -2", "foresee(0, min) -> -2",
                "foresee(0, max) -> -2");
    }

    /** "BAD_ARGUMENT and BAD_TEXT as for request" */
    private static void noPath() {
        for (String text : new String[] {"", "a", "a/", "/A", "/`", "/{", "/.", "/0", "/=0"}) {
            refused(text, "foresee(0, 0) -> -7");
        }
    }

    private static void firstError() {
        refused("", "foresee(10, 0) -> -2", "foresee(0, 3) -> -2", "foresee(-1, -1) -> -2");
        refused("/A", "foresee(-1, 0) -> -2", "foresee(0, -1) -> -2");
    }

    /** "Returns the answer that a request would have": for each in a long row of requests. */
    private static void theAnswer() {
        Router x = new Router().does("addBackend(0, 0, 1)", "addBackend(0, 0, 2)", "addBackend(0, 1, 1)",
                "setPattern(0, 2)", "setPattern(1, 10)", "setPattern(2, 102)", "configure(0, 2, 2, 3, 60, 20)",
                "rule('/a=0~0*2')", "rule('/b=0,1')", "rule('/c=2')", "foreseen('/d', 0, 0) -> -4",
                "foreseen('/c', 0, 0) -> -5", "mark() -> 3");
        int[] seen = new int[2];
        for (int i = 0; i < 45; i++) {
            x.does(i % 4 == 3 ? "type('/b')" : "type('/a')");
            String arguments = "(" + i % 10 + ", " + i % 3 + ")";
            String foreseen = x.asks("foresee" + arguments);
            x.does("foresee" + arguments + " -> " + foreseen, "request" + arguments + " -> " + foreseen);
            seen[foreseen.equals("-6") ? 0 : 1]++;
            if (i % 5 == 0) {
                x.does("tick(1)");
            }
        }
        Check.holds("some fail and some do not", seen[0] > 5 && seen[1] > 5);
        x.does("count(11) -> 54", "play(0) -> 0");
    }

    /** The header value has a say in the rule and in what is remembered, the zone in which ones are near. */
    private static void headerAndZoneOfTheAnswer() {
        new Router().does("addBackend(0, 0, 1)", "addBackend(0, 1, 1)", "addBackend(1, 0, 1)", "addBackend(1, 2, 1)",
                "rule('/[0-2]=0')", "rule('/[3-9]=1')", "foreseen('/', 2, 0) -> 0", "foreseen('/', 2, 1) -> 1",
                "foreseen('/', 3, 0) -> 2", "foreseen('/', 3, 2) -> 3", "foreseen('/', 0, 1) -> 1",
                "foreseen('/', 9, 2) -> 3", "configure(1, 2, 9, 1, 0, 0)", "ask('/', 4, 1) -> 2",
                "ask('/', 5, 1) -> 3", "foreseen('/', 4, 1) -> 2", "foreseen('/', 5, 1) -> 3",
                "foreseen('/', 5, 0) -> 2", "foreseen('/', 5, 1) -> 3", "foreseen('/', 4, 2) -> 3");
    }

    /** "Nothing changes, and the text stays." */
    private static void nothingChanges() {
        String[] calls = {"foresee(0, 0)", "foresee(1, 1)", "foresee(8, 2)", "foresee(9, 0)"};
        for (String text : new String[] {"/", "/ab", "/c", "/a//"}) {
            Situations.changesNothing(Situations.USED.then("type('" + text + "')"), calls);
            Situations.changesNothing(Situations.FULL.then("type('" + text + "')"), calls);
        }
        Situations.changesNothing(Situations.FULL.then("rule('/=0')", "append(47, 40)"), calls);
        // Without a rule, without a backend, and in zones where the spill would grow.
        Situations.changesNothing(Situations.NEW.then("type('/')"), "foresee(0, 0) -> -4");
        Situations.changesNothing(Steps.of("rule('/=0')", "mark()", "type('/')"), "foresee(0, 0) -> -5");
        for (int zone = 0; zone < 3; zone++) {
            Steps spill = Steps.of("addBackend(2, " + zone + ", 1) * 2",
                    "addBackend(2, " + (zone + 1) % 3 + ", 1)", "configure(2, 1, 1, 9, 100, 0)",
                    "setPattern(0, 0)", "setZoneLimit(100)", "rule('/=2~2')", "ask('/', 0, " + zone + ") -> -6",
                    "type('/')");
            Situations.changesNothing(spill, "foresee(0, " + zone + ") -> 2");
            Situations.changesNothing(spill.then("request(0, " + zone + ") -> 2", "type('/')"),
                    "foresee(0, " + zone + ") -> 1");
        }
    }

    private static void refused(String text, String... calls) {
        for (Steps situation : new Steps[] {Situations.NEW, Situations.USED, Situations.FULL}) {
            Situations.changesNothing(situation.then("type('" + text + "')"), calls);
        }
    }
}
