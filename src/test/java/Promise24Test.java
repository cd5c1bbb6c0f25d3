/** play, and the conditions; answeredIf beside it. */
public final class Promise24Test {
    public static void main(String[] args) {
        condition();
        nothingMarked();
        nothingRecorded();
        ticksInBetween();
        creditsOfTheCopy();
        attemptsOfTheCopy();
        tokensOfTheCopy();
        spillOfTheCopy();
        rememberedInTheCopy();
        ejectionsOfTheCopy();
        copyIsKept();
        withoutShadows();
        withoutFurtherAttempts();
        withoutEjection();
        ejectedBefore();
        allPoliciesNone();
        zoneLimitOfOne();
        zoneLimitOfExactlyOne();
        requestsWithoutAnswer();
        headersAndZones();
        longestRecording();
        shorterRecording();
        nothingChanges();
        Check.end();
    }

    /** Plays twice and asks for the answers, and once more. */
    private static void plays(Router x, int condition, int changed, int answered) {
        x.does("play(" + condition + ") -> " + changed, "answeredIf(" + condition + ") -> " + answered,
                "play(" + condition + ") -> " + changed);
    }

    /** "condition: the condition, 0 to 4" */
    private static void condition() {
        for (Steps situation : new Steps[] {Situations.USED, Situations.FULL}) {
            situation.taken().does("play(0) -> 0");
            Check.holds("play(4) is answered", situation.taken().call("play", 4) >= 0);
            Situations.changesNothing(situation, "play(-1) -> -2", "play(5) -> -2", "play(min) -> -2",
                    "play(max) -> -2");
        }
    }

    /** "NONE if nothing is marked", which is listed behind BAD_ARGUMENT. */
    private static void nothingMarked() {
        Situations.changesNothing(Situations.NEW, "play(0) -> -1", "play(4) -> -1", "play(-1) -> -2",
                "play(5) -> -2");
        Steps unmarked = Situations.USED.then("setZoneLimit(99)");
        Situations.changesNothing(unmarked, "play(0) -> -1", "play(4) -> -1", "play(-1) -> -2", "play(5) -> -2");
    }

    private static void nothingRecorded() {
        Router x = new Router().does("mark()");
        Router y = Situations.USED.taken().does("mark()");
        for (int condition = 0; condition < 5; condition++) {
            plays(x, condition, 0, 0);
            plays(y, condition, 0, 0);
        }
    }

    /** "with the ticks in between": each of them where it was. */
    private static void ticksInBetween() {
        Router x = new Router().does("addBackend(0, 0, 1)", "setPattern(0, 190)", "configure(0, 0, 1, 2, 100, 0)",
                "rule('/=0')", "mark()", "ask('/', 0, 0) * 2 -> -6 -5", "tick(1)", "ask('/', 0, 0) -> -5",
                "tick(1)", "ask('/', 0, 0) * 6 -> 0 0 0 0 0 -6", "ask('/', 0, 0) -> -5");
        plays(x, 0, 0, 5);
        plays(x, 1, 0, 5);
        plays(x, 3, 0, 5);
        plays(x, 4, 0, 5);
        // Without ejection: -6 0, 0, 0 0 0 -6 0 -6, 0.
        plays(x, 2, 4, 7);
    }

    /** "starting from the copy": the credits are those of the mark. */
    private static void creditsOfTheCopy() {
        Steps targets = Steps.of("addBackend(0, 0, 1)", "addBackend(1, 0, 1)", "rule('/=0:2,1')",
                "ask('/', 0, 0) -> 0");
        fromTheMark(targets, "ask('/', 0, 0) * 4 -> 1 0 0 1", 4);
        Steps backends = Steps.of("addBackend(0, 0, 2)", "addBackend(0, 0, 1)", "rule('/=0')",
                "ask('/', 0, 0) -> 0");
        fromTheMark(backends, "ask('/', 0, 0) * 4 -> 1 0 0 1", 4);
    }

    private static void attemptsOfTheCopy() {
        Steps attempts = Steps.of("addBackend(0, 0, 1)", "setPattern(0, 148)", "rule('/=0')",
                "configure(0, 0, 9, 1, 0, 0)", "ask('/', 0, 0) * 2 -> -6 -6");
        fromTheMark(attempts, "ask('/', 0, 0) * 6 -> 0 -6 0 -6 -6 0", 3);
        Steps used = Steps.of("addBackend(0, 0, 1)", "addBackend(0, 0, 2)", "rule('/=0')",
                "configure(0, 1, 9, 1, 0, 0)", "ask('/', 0, 0) -> 0");
        fromTheMark(used, "ask('/', 0, 0) * 4 -> 1 1 0 1", 4);
    }

    private static void tokensOfTheCopy() {
        Steps tokens = Steps.of("addBackend(0, 0, 1) * 2", "setPattern(0, 0)", "rule('/=0*2')",
                "configure(0, 1, 9, 9, 0, 0)", "ask('/', 0, 0) -> 1", "setPattern(1, 254)");
        fromTheMark(tokens, "ask('/', 0, 0) * 5 -> 1 1 -6 1 -6", 3);
    }

    private static void rememberedInTheCopy() {
        Steps sticky = Steps.of("addBackend(0, 0, 1) * 2", "rule('/=0')", "configure(0, 2, 9, 9, 0, 0)",
                "ask('/', 3, 0) -> 0", "setWeight(0, 0)", "ask('/', 4, 0) -> 1", "setWeight(0, 1)");
        fromTheMark(sticky, "ask('/', 3, 0) -> 0", 1);
        fromTheMark(sticky, "ask('/', 4, 0) -> 1", 1);
        for (int header = 0; header < 10; header++) {
            String ask = "ask('/', " + header + ", ";
            Router x = new Router().does("addBackend(0, 0, 1)", "addBackend(0, 1, 1)", "rule('/=0')",
                    "configure(0, 2, 9, 1, 0, 0)", ask + "0) -> 0", "mark()", ask + "2) -> 0", ask + "1) -> 1",
                    ask + "2) -> 1");
            plays(x, 0, 0, 3);
        }
    }

    private static void spillOfTheCopy() {
        for (int zone = 0; zone < 3; zone++) {
            Steps spill = Steps.of("addBackend(0, " + zone + ", 1) * 2",
                    "addBackend(0, " + (zone + 1) % 3 + ", 1)", "rule('/=0')", "configure(0, 1, 1, 20, 100, 0)",
                    "setPattern(0, 0)", "setZoneLimit(100)", "ask('/', 0, " + zone + ") * 2 -> -6 2",
                    "service(0, " + (10 + zone) + ") -> 50");
            fromTheMark(spill, "ask('/', 0, " + zone + ") * 3 -> 1 2 1", 3);
        }
    }

    /** The failure runs, the numbers of ejections and the ticks that are left are those of the mark. */
    private static void ejectionsOfTheCopy() {
        Steps runs = Steps.of("addBackend(0, 0, 1)", "setPattern(0, 0)", "rule('/=0')",
                "configure(0, 0, 3, 9, 100, 0)", "ask('/', 0, 0) * 2 -> -6 -6");
        fromTheMark(runs, "ask('/', 0, 0) * 2 -> -6 -5", 0);
        Steps ejected = Steps.of("addBackend(0, 0, 1)", "setPattern(0, 2)", "rule('/=0')",
                "configure(0, 1, 1, 3, 100, 0)", "ask('/', 0, 0) -> -6", "tick(1)", "backend(0, 9) -> 2");
        fromTheMark(ejected, "ask('/', 0, 0) -> -5", 0);
        Steps ejections = Steps.of("addBackend(0, 0, 1)", "setPattern(0, 0)", "rule('/=0')",
                "configure(0, 1, 1, 1, 100, 0)", "ask('/', 0, 0) -> -6", "tick(1)");
        Router x = ejections.taken().does("mark()", "ask('/', 0, 0) -> -6", "tick(1)", "ask('/', 0, 0) -> -5",
                "tick(1)", "ask('/', 0, 0) -> -6");
        plays(x, 0, 0, 0);
    }

    private static void fromTheMark(Steps before, String requests, int answered) {
        Router x = before.taken().does("mark()", requests);
        plays(x, 0, 0, answered);
        plays(x, 0, 0, answered);
    }

    /** The copy is that of the mark, whatever was saved, foreseen, played or asked since. */
    private static void copyIsKept() {
        Router x = new Router().does("addBackend(0, 0, 1)", "setPattern(0, 85)", "configure(0, 0, 9, 1, 0, 0)",
                "rule('/=0')", "mark()", "ask('/', 0, 0) * 3 -> 0 -6 0", "save()", "foreseen('/', 0, 0) -> -6",
                "play(3) -> 0");
        plays(x, 0, 0, 2);
        x.does("ask('/', 0, 0) * 2 -> -6 0");
        plays(x, 0, 0, 3);
    }

    /** "0 without shadows": which no answer depends on. */
    private static void withoutShadows() {
        Router x = new Router().does("addBackend(0, 0, 1) * 2", "setPattern(0, 5)", "configure(0, 0, 9, 1, 0, 0)",
                "rule('/=0~0')", "mark()", "ask('/', 0, 0) * 6 -> 0 1 -6 1 0 1");
        plays(x, 0, 0, 5);
        x.does("backend(0, 10) -> 3", "backend(1, 10) -> 3", "count(8) -> 6");
    }

    /** "1 without further attempts" */
    private static void withoutFurtherAttempts() {
        Router x = new Router().does("addBackend(0, 0, 1) * 2", "setPattern(0, 0)",
                "configure(0, 0, 9, 1, 0, 100)", "rule('/=0*2')", "mark()", "ask('/', 0, 0) * 4 -> 1 1 1 1");
        plays(x, 0, 0, 4);
        // 0 and 1 by turns.
        plays(x, 1, 2, 2);
        x = new Router().does("addBackend(0, 0, 1) * 4", "setPattern(0, 0)", "setPattern(1, 0)",
                "setPattern(2, 0)", "configure(0, 1, 9, 1, 0, 100)", "rule('/=0*4')", "mark()",
                "ask('/', 0, 0) -> 3");
        plays(x, 0, 0, 1);
        plays(x, 1, 1, 0);
    }

    /** "2 without ejection" */
    private static void withoutEjection() {
        Router x = new Router().does("addBackend(0, 0, 1) * 2", "setPattern(0, 0)",
                "configure(0, 0, 1, 9, 100, 0)", "rule('/=0')", "mark()", "ask('/', 0, 0) * 4 -> -6 1 1 1");
        plays(x, 0, 0, 3);
        // 0 and 1 by turns.
        plays(x, 2, 1, 2);
    }

    /** What was ejected before the mark is so in the copy, for as many ticks as are left. */
    private static void ejectedBefore() {
        Router x = new Router().does("addBackend(0, 0, 1) * 2", "setPattern(0, 0)",
                "configure(0, 0, 1, 9, 100, 0)", "rule('/=0')", "ask('/', 0, 0) * 2 -> -6 1", "mark()",
                "ask('/', 0, 0) * 2 -> 1 1");
        plays(x, 2, 0, 2);
        x.does("tick(9)", "ask('/', 0, 0) * 4 -> 1 -6 1 1");
        plays(x, 0, 0, 5);
        // After the ticks 1 and 0 by turns.
        plays(x, 2, 1, 4);
    }

    /** "3 with all policies 0" */
    private static void allPoliciesNone() {
        String[] answers = {"2 0 1 2", "0 1 2 2", "2 2 2 2"};
        int[] changed = {0, 3, 2};
        for (int policy = 0; policy < 3; policy++) {
            Router x = new Router().does("addBackend(1, 0, 1) * 2", "addBackend(1, 0, 2)",
                    "configure(1, " + policy + ", 9, 1, 0, 0)", "rule('/=1')", "mark()",
                    "ask('/', 0, 0) * 4 -> " + answers[policy]);
            plays(x, 0, 0, 4);
            plays(x, 3, changed[policy], 4);
        }
        Router all = new Router();
        for (int service = 0; service < 4; service++) {
            all.does("addBackend(" + service + ", 0, 1) * 2", "configure(" + service + ", 2, 9, 1, 0, 0)",
                    "rule('/" + (char) ('a' + service) + "=" + service + "')");
        }
        all.does("mark()", "ask('/a', 0, 0) * 2 -> 0 0", "ask('/b', 0, 0) * 2 -> 2 2",
                "ask('/c', 0, 0) * 2 -> 4 4", "ask('/d', 0, 0) * 2 -> 6 6");
        plays(all, 3, 4, 8);
    }

    /** "4 with a zone limit of 1" */
    private static void zoneLimitOfOne() {
        Router x = new Router().does("addBackend(0, 0, 1)", "addBackend(0, 0, 3)", "addBackend(0, 1, 1)",
                "configure(0, 0, 1, 20, 100, 0)", "setPattern(1, 0)", "setZoneLimit(100)", "rule('/=0')",
                "ask('/', 0, 0) -> -6", "mark()", "ask('/', 0, 0) * 4 -> 2 2 2 0");
        plays(x, 0, 0, 4);
        plays(x, 4, 3, 4);
        x.does("service(0, 10) -> 0", "setZoneLimit(1) -> 100");
    }

    /** The near weight of 1 is enough for 55 of the zone by a limit of 1, but not by one of 2. */
    private static void zoneLimitOfExactlyOne() {
        Steps one = Steps.of("addBackend(0, 0, 1)", "addBackend(0, 1, 1)", "configure(0, 1, 1, 20, 100, 0)",
                "rule('/=0')", "addBackend(0, 0, 9) * 6", "setPattern(2, 0)", "setPattern(3, 0)",
                "setPattern(4, 0)", "setPattern(5, 0)", "setPattern(6, 0)", "setPattern(7, 0)",
                "setZoneLimit(1)", "ask('/', 0, 0) * 8 -> 0 -6 -6 -6 -6 -6 -6 0");
        Router x = one.taken().does("setZoneLimit(2)", "mark()", "ask('/', 0, 0) * 2 -> 1 0");
        plays(x, 0, 0, 2);
        plays(x, 4, 1, 2);
    }

    /** Requests without a rule and without a backend are played, and are no ticks. */
    private static void requestsWithoutAnswer() {
        Router x = new Router().does("addBackend(0, 0, 1)", "setPattern(0, 6)", "configure(0, 0, 1, 1, 100, 0)",
                "rule('/a=0')", "rule('/b=1')", "mark()", "ask('/a', 0, 0) -> -6", "ask('/c', 0, 0) -> -4",
                "ask('/b', 0, 0) -> -5", "ask('/a', 0, 0) -> -5");
        plays(x, 0, 0, 0);
        plays(x, 2, 1, 1);
    }

    /** Each request with the path, the header value and the zone that it had. */
    private static void headersAndZones() {
        Router x = new Router().does("addBackend(0, 0, 1)", "addBackend(0, 1, 1)", "addBackend(0, 2, 1)",
                "addBackend(1, 0, 1) * 2", "configure(1, 2, 9, 1, 0, 0)", "rule('/a=0')", "rule('/b[0-6]=1')",
                "rule('/b=0')", "mark()", "ask('/a', 0, 2) -> 2", "ask('/a', 0, 1) -> 1",
                "ask('/a', 0, 0) -> 0", "ask('/b', 5, 0) -> 3", "ask('/b', 6, 0) -> 4", "ask('/b', 5, 0) -> 3",
                "ask('/b', 6, 0) * 2 -> 4 4", "ask('/b', 7, 1) -> 1", "ask('/', 9, 2) -> -4");
        plays(x, 0, 0, 9);
        plays(x, 3, 1, 9);
    }

    private static void longestRecording() {
        Router x = new Router().does("addBackend(0, 0, 1) * 2", "configure(0, 2, 9, 1, 0, 0)", "rule('/=0')",
                "mark()", "ask('/', 0, 0) * 60", "count(11) -> 60");
        plays(x, 0, 0, 60);
        plays(x, 3, 30, 60);
    }

    /** What was recorded and played before an earlier mark does not count any more. */
    private static void shorterRecording() {
        Router x = new Router().does("addBackend(0, 0, 1) * 2", "setPattern(0, 0)",
                "configure(0, 1, 9, 1, 0, 100)", "rule('/=0*2')", "mark()", "ask('/', 0, 0) * 3 -> 1 1 1");
        plays(x, 1, 2, 1);
        x.does("mark()", "tick(2)");
        plays(x, 0, 0, 0);
        plays(x, 1, 0, 0);
        x.does("ask('/', 0, 0) -> 1");
        plays(x, 0, 0, 1);
    }

    private static void nothingChanges() {
        for (Steps situation : new Steps[] {Situations.USED, Situations.USED.then("type('/ab')"), Situations.FULL,
            Situations.MARKED}) {
            Situations.changesNothing(situation, "play(0) -> 0", "play(1)", "play(2)", "play(3)", "play(4)");
        }
    }
}
