/** Choosing by weights, among targets and among backends (promise 12). */
public final class ChoosingTest {
    public static void main(String[] args) {
        greatestCredit();
        lowestNumberOfSeveral();
        decreasedByAllWeights();
        onlyOne();
        greatestWeights();
        notAmongThem();
        noneToChoose();
        withoutWeight();
        eachServiceForItself();
        eachRuleForItself();
        Check.end();
    }

    /** "the credit of each element is increased by its weight; the element with the greatest credit is chosen" */
    private static void greatestCredit() {
        new Router().does("addBackend(0, 0, 1)", "addBackend(0, 0, 3)", "addBackend(0, 0, 2)", "rule('/=0')",
                "ask('/', 0, 0) * 6 -> 1 2 0 1 2 1", "backend(0, 4) -> 0", "backend(1, 4) -> 0",
                "backend(2, 4) -> 0");
        new Router().does("addBackend(3, 0, 1)", "addBackend(0, 0, 1)", "addBackend(2, 0, 1)",
                "rule('/=3:5,0:1,2:1')", "ask('/', 0, 0) * 7 -> 0 0 1 0 2 0 0",
                "targets(0) -> 3,5,0,5 0,1,0,1 2,1,0,1");
    }

    /** "of several the one with the lowest number" */
    private static void lowestNumberOfSeveral() {
        new Router().does("addBackend(0, 0, 2) * 3", "rule('/=0')", "ask('/', 0, 0) * 6 -> 0 1 2 0 1 2");
        new Router().does("addBackend(2, 0, 1)", "addBackend(1, 0, 1)", "addBackend(0, 0, 1)",
                "rule('/=2:4,0:4,1:4')", "ask('/', 0, 0) * 6 -> 0 2 1 0 2 1");
        // Credits of 2 and 2 in the second choice.
        new Router().does("addBackend(0, 0, 1)", "addBackend(0, 0, 3)", "rule('/=0')",
                "ask('/', 0, 0) * 4 -> 1 0 1 1");
    }

    /** "its credit is decreased by the sum of all these weights" */
    private static void decreasedByAllWeights() {
        new Router().does("addBackend(0, 0, 1)", "addBackend(0, 0, 0)", "addBackend(0, 0, 3)",
                "addBackend(0, 0, 2)", "rule('/=0')", "ask('/', 0, 0) -> 2", "backend(0, 4) -> 1",
                "backend(1, 4) -> 0", "backend(2, 4) -> -3", "backend(3, 4) -> 2");
        new Router().does("addBackend(3, 0, 1)", "addBackend(0, 0, 1)", "rule('/=3:5,0:2')", "ask('/', 0, 0) -> 0",
                "targets(0) -> 3,5,-2,1 0,2,2,0");
    }

    private static void onlyOne() {
        new Router().does("addBackend(0, 0, 9)", "rule('/=0:9')", "ask('/', 0, 0) * 3 -> 0 0 0",
                "backend(0, 4) -> 0", "targets(0) -> 0,9,0,3");
    }

    /** Twelve backends of weight 9, and three targets of weight 9. */
    private static void greatestWeights() {
        new Router().does("addBackend(0, 0, 9) * 12", "rule('/=0')",
                "ask('/', 0, 0) * 13 -> 0 1 2 3 4 5 6 7 8 9 10 11 0", "backend(0, 4) -> -99",
                "backend(11, 4) -> 9");
        new Router().does("addBackend(0, 0, 1)", "addBackend(1, 0, 1)", "addBackend(2, 0, 1)",
                "rule('/=0:9,1:9,2:9')", "ask('/', 0, 0) * 4 -> 0 1 2 0",
                "targets(0) -> 0,9,-18,2 1,9,9,1 2,9,9,1");
    }

    /** "the credits of those that are not among them stay" */
    private static void notAmongThem() {
        new Router().does("addBackend(0, 0, 1)", "addBackend(1, 0, 1)", "rule('/=0:2,1,3:9')",
                "ask('/', 0, 0) -> 0", "targets(0) -> 0,2,-1,1 1,1,1,0 3,9,0,0", "setWeight(0, 0)",
                "ask('/', 0, 0) -> 1", "targets(0) -> 0,2,-1,1 1,1,1,1 3,9,0,0", "setWeight(0, 1)",
                "ask('/', 0, 0) -> 1", "targets(0) -> 0,2,1,1 1,1,-1,2 3,9,0,0");
        new Router().does("addBackend(0, 0, 1) * 2", "addBackend(0, 1, 1) * 2", "rule('/=0')",
                "ask('/', 0, 2) -> 0", "backend(2, 4) -> 1", "backend(3, 4) -> 1", "ask('/', 0, 0) -> 1",
                "backend(0, 4) -> -2", "backend(1, 4) -> 0", "backend(2, 4) -> 1", "backend(3, 4) -> 1");
    }

    private static void noneToChoose() {
        new Router().does("addBackend(0, 0, 1)", "addBackend(1, 0, 1)", "rule('/=0:2,1')", "ask('/', 0, 0) -> 0",
                "setWeight(0, 0)", "setWeight(1, 0)", "ask('/', 0, 0) -> -5", "targets(0) -> 0,2,-1,1 1,1,1,0");
    }

    /** A backend without weight is never chosen, and its credit stays. */
    private static void withoutWeight() {
        new Router().does("addBackend(0, 0, 2)", "addBackend(0, 0, 1)", "rule('/=0')", "ask('/', 0, 0) -> 0",
                "backend(1, 4) -> 1", "setWeight(1, 0)", "ask('/', 0, 0) * 3 -> 0 0 0", "backend(1, 4) -> 1",
                "backend(0, 4) -> -1", "setWeight(1, 1)", "ask('/', 0, 0) -> 1");
    }

    private static void eachServiceForItself() {
        new Router().does("addBackend(0, 0, 1)", "addBackend(1, 0, 1)", "addBackend(0, 0, 1)",
                "addBackend(1, 0, 1)", "rule('/a=0')", "rule('/b=1')", "ask('/a', 0, 0) * 3 -> 0 2 0",
                "ask('/b', 0, 0) * 3 -> 1 3 1", "ask('/a', 0, 0) * 2 -> 2 0");
    }

    /** Credits "belong to the elements, the backends or the targets of a rule" */
    private static void eachRuleForItself() {
        new Router().does("addBackend(0, 0, 1) * 2", "addBackend(1, 0, 1)", "rule('/a=0,1')", "rule('/b=0,1')",
                "ask('/a', 0, 0) -> 0", "targets(0) -> 0,1,-1,1 1,1,1,0", "targets(1) -> 0,1,0,0 1,1,0,0",
                "ask('/b', 0, 0) -> 1", "targets(0) -> 0,1,-1,1 1,1,1,0", "targets(1) -> 0,1,-1,1 1,1,1,0",
                "ask('/a', 0, 0) -> 2", "ask('/a', 0, 0) -> 0");
    }
}
