/** target. */
public final class Promise18Test {
    private static final Steps RULES = Steps.of("addBackend(3, 0, 1)", "addBackend(1, 0, 1)",
            "rule('/a=3:2,1:3,0:9')", "rule('/b=1')", "rule('/c=2,3')");

    public static void main(String[] args) {
        properties();
        credit();
        noSuchRule();
        noSuchTarget();
        what();
        nothingChanges();
        Check.end();
    }

    private static void properties() {
        RULES.taken().does("targets(0) -> 3,2,0,0 1,3,0,0 0,9,0,0", "targets(1) -> 1,1,0,0",
                "targets(2) -> 2,1,0,0 3,1,0,0", "ask('/a', 0, 0) -> 1",
                "targets(0) -> 3,2,2,0 1,3,-2,1 0,9,0,0", "ask('/a', 0, 0) -> 0",
                "targets(0) -> 3,2,-1,1 1,3,1,1 0,9,0,0", "targets(1) -> 1,1,0,0");
    }

    /** "which for the credit may be negative" */
    private static void credit() {
        new Router().does("addBackend(0, 0, 1)", "addBackend(1, 0, 1)", "addBackend(2, 0, 1)",
                "rule('/=0:9,1:3,2:3')", "ask('/', 0, 0) -> 0", "target(0, 0, 2) -> -6", "target(0, 1, 2) -> 3",
                "target(0, 2, 2) -> 3");
    }

    /** "NONE if there is no such rule", which is listed before BAD_ARGUMENT. */
    private static void noSuchRule() {
        new Router().does("target(0, 0, 0) -> -1", "target(0, 0, 4) -> -1");
        RULES.taken().does("target(2, 0, 0) -> 2", "target(3, 0, 0) -> -1", "target(-1, 0, 0) -> -1",
                "target(3, 0, 4) -> -1", "target(min, 0, 0) -> -1", "target(max, 0, 0) -> -1");
        Situations.FULL.taken().does("target(7, 2, 1) -> 9", "target(8, 0, 0) -> -1");
    }

    /** "or target": of rules with one, two and three. */
    private static void noSuchTarget() {
        RULES.taken().does("target(0, 2, 1) -> 9", "target(0, 3, 1) -> -1", "target(1, 0, 1) -> 1",
                "target(1, 1, 1) -> -1", "target(2, 1, 1) -> 1", "target(2, 2, 1) -> -1",
                "target(0, -1, 0) -> -1", "target(0, 3, 4) -> -1", "target(1, 1, -1) -> -1",
                "target(0, min, 0) -> -1", "target(0, max, 0) -> -1");
        // A rule with one target where there was one with three.
        RULES.taken().does("removeRule(0)", "removeRule(0)", "target(0, 1, 0) -> 3", "removeRule(0)",
                "rule('/=1') -> 0", "target(0, 0, 0) -> 1", "target(0, 1, 0) -> -1");
    }

    /** "BAD_ARGUMENT if what is not from 0 to 3" */
    private static void what() {
        RULES.taken().does("target(0, 1, 0) -> 1", "target(0, 1, 3) -> 0", "target(0, 1, -1) -> -2",
                "target(0, 1, 4) -> -2", "target(1, 0, min) -> -2", "target(1, 0, max) -> -2");
    }

    private static void nothingChanges() {
        Situations.changesNothing(Situations.USED, "targets(0)", "target(2, 0, 0)", "target(0, 2, 0)",
                "target(0, 0, 4)");
    }
}
