/** removeRule. */
public final class Promise09Test {
    private static final Steps FIVE = Steps.of("addBackend(0, 0, 1)", "addBackend(1, 0, 1)", "rule('/a=0')",
            "rule('/b=0,1:2')", "rule('/c=1')", "rule('/d=1,0')", "rule('/e=0')", "ask('/b', 0, 0) -> 1",
            "ask('/d', 0, 0) -> 1");

    public static void main(String[] args) {
        remaining();
        laterOnes();
        noSuchRule();
        gone();
        roomAgain();
        endsTheMarking();
        Check.end();
    }

    /** "Returns the number of rules that remain" */
    private static void remaining() {
        FIVE.taken().does("removeRule(4) -> 4", "removeRule(0) -> 3", "removeRule(1) -> 2", "removeRule(1) -> 1",
                "removeRule(0) -> 0", "count(1) -> 0");
        Situations.FULL.taken().does("removeRule(7) -> 7", "removeRule(0) -> 6");
    }

    /** "The numbers of the later ones decrease by 1": of the first, one between and the last. */
    private static void laterOnes() {
        FIVE.taken().does("removeRule(0)", "shown(0) -> /b=0,1:2", "targets(0) -> 0,1,1,0 1,2,-1,1",
                "shown(1) -> /c=1", "shown(2) -> /d=1,0", "targets(2) -> 1,1,-1,1 0,1,1,0", "shown(3) -> /e=0");
        FIVE.taken().does("removeRule(2)", "shown(0) -> /a=0", "shown(1) -> /b=0,1:2",
                "targets(1) -> 0,1,1,0 1,2,-1,1", "shown(2) -> /d=1,0", "targets(2) -> 1,1,-1,1 0,1,1,0",
                "shown(3) -> /e=0", "print(4) -> -1");
        FIVE.taken().does("removeRule(4)", "shown(0) -> /a=0", "shown(1) -> /b=0,1:2", "shown(2) -> /c=1",
                "shown(3) -> /d=1,0", "print(4) -> -1", "target(4, 0, 0) -> -1");
    }

    /** "NONE if there is no such rule" */
    private static void noSuchRule() {
        Situations.changesNothing(Situations.NEW, "removeRule(0) -> -1", "removeRule(-1) -> -1");
        Situations.USED.taken().does("removeRule(1) -> 1");
        Situations.changesNothing(Situations.USED, "removeRule(2) -> -1", "removeRule(-1) -> -1",
                "removeRule(min) -> -1", "removeRule(max) -> -1");
        Situations.changesNothing(Situations.FULL, "removeRule(8) -> -1", "removeRule(-1) -> -1");
    }

    private static void gone() {
        FIVE.taken().does("removeRule(2)", "matched('/c', 0) -> -1", "matched('/d', 0) -> 2",
                "ask('/c', 0, 0) -> -4", "removeRule(0) * 4 -> 3 2 1 0", "removeRule(0) -> -1",
                "ask('/a', 0, 0) -> -4");
    }

    /** A rule after one that was removed is a new one. */
    private static void roomAgain() {
        Situations.FULL.taken().does("rule('/=3') -> -3", "removeRule(7) -> 7", "rule('/=3') -> 7",
                "targets(7) -> 3,1,0,0", "rule('/=3') -> -3");
        FIVE.taken().does("removeRule(0) * 5", "rule('/b=0,1:2') -> 0", "targets(0) -> 0,1,0,0 1,2,0,0");
    }

    private static void endsTheMarking() {
        Situations.USED.taken().does("play(0) -> 0", "removeRule(1) -> 1", "play(0) -> -1", "count(11) -> 0");
    }
}
