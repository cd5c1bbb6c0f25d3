/** setWeight. */
public final class Promise03Test {
    public static void main(String[] args) {
        previousWeight();
        weight();
        noSuchBackend();
        creditStays();
        membership();
        ejectedWithoutWeight();
        endsTheMarking();
        Check.end();
    }

    /** "Returns the previous weight" */
    private static void previousWeight() {
        new Router().does("addBackend(0, 0, 3)", "addBackend(0, 0, 4)", "setWeight(0, 8) -> 3",
                "backend(0, 2) -> 8", "backend(1, 2) -> 4", "setWeight(0, 8) -> 8", "setWeight(0, 1) -> 8");
    }

    /** "weight: the weight, 0 to 9" */
    private static void weight() {
        new Router().does("addBackend(0, 0, 3)", "setWeight(0, 0) -> 3", "backend(0, 2) -> 0",
                "setWeight(0, 9) -> 0", "backend(0, 2) -> 9");
        Situations.changesNothing(Situations.USED, "setWeight(0, -1) -> -2", "setWeight(0, 10) -> -2",
                "setWeight(5, 10) -> -2", "setWeight(0, min) -> -2", "setWeight(0, max) -> -2");
    }

    /** "NONE if there is no such backend", which is listed before BAD_ARGUMENT. */
    private static void noSuchBackend() {
        Situations.changesNothing(Situations.NEW, "setWeight(0, 1) -> -1", "setWeight(0, 10) -> -1");
        Situations.USED.taken().does("setWeight(5, 1) -> 0");
        Situations.changesNothing(Situations.USED, "setWeight(-1, 1) -> -1", "setWeight(6, 1) -> -1",
                "setWeight(-1, 10) -> -1", "setWeight(6, -1) -> -1", "setWeight(min, 1) -> -1",
                "setWeight(max, 1) -> -1");
        Situations.FULL.taken().does("setWeight(11, 1) -> 9");
        Situations.changesNothing(Situations.FULL, "setWeight(12, 1) -> -1");
    }

    /** "Its credit stays": also without weight. */
    private static void creditStays() {
        new Router().does("addBackend(0, 0, 2)", "addBackend(0, 0, 1)", "rule('/=0')", "ask('/', 0, 0) -> 0",
                "backend(0, 4) -> -1", "backend(1, 4) -> 1", "setWeight(0, 9)", "setWeight(1, 0)",
                "backend(0, 4) -> -1", "backend(1, 4) -> 1", "ask('/', 0, 0) -> 0", "backend(0, 4) -> -1",
                "backend(1, 4) -> 1", "setWeight(1, 1) -> 0", "backend(1, 4) -> 1");
    }

    /** "The members of a service are its backends with a weight above 0." */
    private static void membership() {
        new Router().does("addBackend(0, 0, 0)", "rule('/=0')", "service(0, 6) -> 0", "ask('/', 0, 0) -> -5",
                "setWeight(0, 1) -> 0", "service(0, 6) -> 1", "ask('/', 0, 0) -> 0", "setWeight(0, 0) -> 1",
                "service(0, 6) -> 0", "ask('/', 0, 0) -> -5");
    }

    /** "Ejected backends with the weight 0 are no members", but are ejected all the same. */
    private static void ejectedWithoutWeight() {
        new Router().does("addBackend(0, 0, 1)", "setPattern(0, 0)", "configure(0, 0, 1, 5, 100, 0)",
                "rule('/=0')", "ask('/', 0, 0) -> -6", "service(0, 6) -> 1", "service(0, 7) -> 1",
                "setWeight(0, 0)", "service(0, 6) -> 0", "service(0, 7) -> 0", "backend(0, 9) -> 5", "tick(2)",
                "setWeight(0, 1)", "backend(0, 9) -> 3", "service(0, 7) -> 1", "ask('/', 0, 0) -> -5",
                "tick(3)", "service(0, 7) -> 0", "ask('/', 0, 0) -> -6");
    }

    /** "also if nothing is different afterwards" */
    private static void endsTheMarking() {
        Situations.USED.taken().does("play(0) -> 0", "setWeight(0, 1) -> 1", "play(0) -> -1", "count(11) -> 0");
    }
}
