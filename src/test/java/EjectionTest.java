/** Ejection (promise 12). */
public final class EjectionTest {
    public static void main(String[] args) {
        failureRun();
        failureLimit();
        beyondTheLimit();
        runBeginsAgain();
        exactShare();
        shareOfNothing();
        shareOfAll();
        membersOfTheService();
        ejectedMembers();
        withoutWeight();
        longerEachTime();
        longestTime();
        ejectedByAFurtherAttempt();
        counts();
        Check.end();
    }

    /** Backends of weight 1 that fail, and a rule for them. */
    private static Steps failing(int backends, int limit, int time, int share) {
        return x -> {
            x.does("configure(0, 0, " + limit + ", " + time + ", " + share + ", 0)", "rule('/=0')");
            for (int i = 0; i < backends; i++) {
                x.does("addBackend(0, 0, 1)", "setPattern(" + i + ", 0)");
            }
        };
    }

    /** "When an attempt succeeds, the failure run of the backend is 0. When it fails, ... increased by 1." */
    private static void failureRun() {
        failing(1, 9, 4, 100).taken().does("backend(0, 7) -> 0", "ask('/', 0, 0)", "backend(0, 7) -> 1",
                "ask('/', 0, 0)", "backend(0, 7) -> 2", "setPattern(0, 255)", "ask('/', 0, 0) -> 0",
                "backend(0, 7) -> 0", "ask('/', 0, 0) -> 0", "backend(0, 7) -> 0", "setPattern(0, 0)",
                "ask('/', 0, 0)", "backend(0, 7) -> 1");
    }

    /** "If it is at least the failure limit of its service then": not one before */
    private static void failureLimit() {
        for (int limit = 1; limit <= 9; limit++) {
            Router x = failing(1, limit, 4, 100).taken();
            for (int run = 1; run < limit; run++) {
                x.does("ask('/', 0, 0) -> -6", "backend(0, 7) -> " + run, "backend(0, 9) -> 0",
                        "trace() -> 0,0,1,0");
            }
            x.does("ask('/', 0, 0) -> -6", "backend(0, 7) -> 0", "backend(0, 9) -> 4", "trace() -> 0,0,1,1",
                    "backend(0, 8) -> 1", "ask('/', 0, 0) -> -5");
        }
        // A success in between.
        failing(1, 3, 4, 100).taken().does("setPattern(0, 4)", "ask('/', 0, 0) * 5 -> -6 -6 0 -6 -6",
                "backend(0, 8) -> 0", "ask('/', 0, 0) -> -6", "backend(0, 8) -> 1");
    }

    /** A run beyond the limit ejects as soon as the share allows it, but only with a failed attempt. */
    private static void beyondTheLimit() {
        Steps run = failing(1, 9, 4, 100).then("ask('/', 0, 0) * 4", "backend(0, 7) -> 4",
                "configure(0, 0, 2, 4, 100, 0)", "backend(0, 9) -> 0");
        run.taken().does("ask('/', 0, 0) -> -6", "backend(0, 7) -> 0", "backend(0, 9) -> 4");
        run.taken().does("setPattern(0, 255)", "ask('/', 0, 0) -> 0", "backend(0, 7) -> 0", "backend(0, 9) -> 0");
        failing(2, 2, 1, 50).taken().does("ask('/', 0, 0) * 3", "backend(0, 9) -> 1", "ask('/', 0, 0) * 2",
                "backend(1, 7) -> 3", "backend(1, 9) -> 0", "tick(1)", "setPattern(0, 255)",
                "ask('/', 0, 0) * 2", "backend(1, 8) -> 1", "backend(1, 7) -> 0");
    }

    /** "its failure run is 0": another whole run is needed to be ejected again */
    private static void runBeginsAgain() {
        failing(1, 2, 1, 100).taken().does("ask('/', 0, 0) * 2 -> -6 -6", "backend(0, 8) -> 1", "tick(1)",
                "ask('/', 0, 0) -> -6", "backend(0, 7) -> 1", "backend(0, 9) -> 0", "ask('/', 0, 0) -> -6",
                "backend(0, 8) -> 2");
    }

    /** "the number of ejected members ... plus 1, times 100, is at most the ejection share times ..." */
    private static void exactShare() {
        // One of two, one of three, two of three, one of twelve, and one of one.
        ejects(failing(2, 1, 9, 50), 1, 1);
        ejects(failing(2, 1, 9, 49), 1, 0);
        ejects(failing(3, 1, 9, 33), 1, 0);
        ejects(failing(3, 1, 9, 34), 1, 1);
        ejects(failing(3, 1, 9, 66), 2, 1);
        ejects(failing(3, 1, 9, 67), 2, 2);
        ejects(failing(4, 1, 9, 25), 4, 1);
        ejects(failing(4, 1, 9, 24), 4, 0);
        ejects(failing(12, 1, 9, 8), 1, 0);
        ejects(failing(12, 1, 9, 9), 1, 1);
        ejects(failing(1, 1, 9, 100), 1, 1);
        ejects(failing(1, 1, 9, 99), 1, 0);
    }

    private static void ejects(Steps failing, int requests, int ejected) {
        failing.taken().does("ask('/', 0, 0) * " + requests, "service(0, 7) -> " + ejected,
                "count(9) -> " + ejected);
    }

    private static void shareOfNothing() {
        ejects(failing(1, 1, 9, 0), 5, 0);
        ejects(failing(12, 1, 9, 0), 30, 0);
        failing(1, 1, 9, 0).taken().does("ask('/', 0, 0) * 12", "backend(0, 7) -> 12");
    }

    private static void shareOfAll() {
        ejects(failing(1, 1, 9, 100), 1, 1);
        ejects(failing(12, 1, 9, 100), 12, 12);
        failing(12, 1, 9, 100).taken().does("ask('/', 0, 0) * 12", "ask('/', 0, 0) -> -5");
    }

    /** Backends of other services, and those without weight, do not count. */
    private static void membersOfTheService() {
        failing(1, 1, 9, 50).taken().does("addBackend(1, 0, 1)", "addBackend(0, 0, 0)", "ask('/', 0, 0) -> -6",
                "backend(0, 9) -> 0", "setWeight(2, 1)", "ask('/', 0, 0) -> -6", "backend(0, 9) -> 9",
                "ask('/', 0, 0) -> 2");
    }

    /** Ejected backends of other services, and those without weight, do not count either. */
    private static void ejectedMembers() {
        failing(2, 1, 20, 50).taken().does("addBackend(1, 0, 1) -> 2", "setPattern(2, 0)",
                "configure(1, 0, 1, 20, 100, 0)", "rule('/b=1')", "moveRule(1, 0)", "ask('/b', 0, 0) -> -6",
                "service(1, 7) -> 1", "ask('/', 0, 0) -> -6", "service(0, 7) -> 1", "ask('/', 0, 0) -> -6",
                "service(0, 7) -> 1");
    }

    /** "Ejected backends with the weight 0 are no members": neither of the members nor of the ejected ones */
    private static void withoutWeight() {
        failing(4, 1, 20, 50).taken().does("ask('/', 0, 0) * 4", "service(0, 7) -> 2", "setWeight(0, 0)",
                "service(0, 6) -> 3", "service(0, 7) -> 1", "ask('/', 0, 0) -> -6", "service(0, 7) -> 1",
                "configure(0, 0, 1, 20, 66, 0)", "ask('/', 0, 0) -> -6", "service(0, 7) -> 1",
                "configure(0, 0, 1, 20, 67, 0)", "ask('/', 0, 0) -> -6", "service(0, 7) -> 2",
                "setWeight(0, 1)", "service(0, 7) -> 3", "service(0, 6) -> 4");
    }

    /** "it is ejected for as many ticks as the ejection time of the service times its number of ejections" */
    private static void longerEachTime() {
        Router x = failing(1, 1, 3, 100).taken();
        for (int times = 1; times <= 4; times++) {
            x.does("ask('/', 0, 0) -> -6", "backend(0, 8) -> " + times, "backend(0, 9) -> " + 3 * times,
                    "tick(" + (3 * times - 1) + ")", "backend(0, 9) -> 1", "ask('/', 0, 0) -> -5", "tick(1)",
                    "backend(0, 9) -> 0", "service(0, 7) -> 0");
        }
        x.does("configure(0, 0, 1, 1, 100, 0)", "ask('/', 0, 0) -> -6", "backend(0, 9) -> 5");
        // Each backend for itself.
        failing(2, 1, 4, 100).taken().does("ask('/', 0, 0) -> -6", "tick(4)", "setWeight(1, 0)",
                "ask('/', 0, 0) -> -6", "backend(0, 9) -> 8", "setWeight(1, 1)", "ask('/', 0, 0) -> -6",
                "backend(1, 9) -> 4");
    }

    private static void longestTime() {
        failing(1, 1, 20, 100).taken().does("ask('/', 0, 0)", "backend(0, 9) -> 20", "tick(20)", "ask('/', 0, 0)",
                "backend(0, 9) -> 40", "tick(40)", "ask('/', 0, 0)", "backend(0, 9) -> 60", "tick(50)",
                "backend(0, 9) -> 10", "tick(50)", "backend(0, 9) -> 0");
    }

    /** "1 if the attempt led to its ejection": each attempt of a request for itself */
    private static void ejectedByAFurtherAttempt() {
        failing(4, 1, 9, 50).taken().does("rule('/=0*4')", "removeRule(0)", "configure(0, 0, 1, 9, 50, 100)",
                "ask('/', 0, 0) -> -6", "trace() -> 0,0,1,1 1,0,1,1 2,0,1,0 3,0,1,0", "service(0, 7) -> 2");
    }

    private static void counts() {
        failing(2, 1, 1, 100).taken().does("ask('/', 0, 0) * 3 -> -6 -6 -5", "count(9) -> 2", "tick(1)",
                "ask('/', 0, 0) -> -6", "count(9) -> 3", "count(6) -> 3", "count(5) -> 1");
    }
}
