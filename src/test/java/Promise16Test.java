/** service. */
public final class Promise16Test {
    public static void main(String[] args) {
        properties();
        members();
        spillOfEachZone();
        noSuchService();
        what();
        nothingChanges();
        Check.end();
    }

    private static void properties() {
        new Router().does("addBackend(1, 0, 1) * 2", "addBackend(1, 1, 1)", "addBackend(1, 1, 0)",
                "addBackend(2, 1, 1)", "configure(1, 1, 1, 6, 40, 30)", "setPattern(0, 0)", "setZoneLimit(80)",
                "rule('/=1:2,2')", "ask('/', 0, 0) * 4 -> -6 4 2 1",
                "service(1) -> 1 1 6 40 30 390 3 1 3 2 24 0 0", "service(2) -> 0 3 5 50 20 320 1 0 1 1 0 0 0",
                "service(0) -> 0 3 5 50 20 300 0 0 0 0 0 0 0");
    }

    /** "the number of its members", and "how many of them are ejected" */
    private static void members() {
        new Router().does("addBackend(3, 0, 1) * 12", "addBackend(3, 0, 1) -> -3", "service(3, 6) -> 12",
                "service(2, 6) -> 0", "configure(3, 0, 1, 20, 100, 100)", "rule('/=3*4')", "setPattern(0, 0)",
                "setPattern(1, 0)", "setPattern(2, 0)", "setPattern(3, 0)", "setPattern(4, 0)",
                "ask('/', 0, 0) * 2 -> -6 5", "service(3, 7) -> 5", "setWeight(0, 0)", "service(3, 6) -> 11",
                "service(3, 7) -> 4", "setWeight(11, 0)", "service(3, 6) -> 10", "service(3, 7) -> 4",
                "tick(20)", "service(3, 7) -> 0", "service(3, 6) -> 10");
    }

    /** "10 to 12 for its spill for zone 0 to 2" */
    private static void spillOfEachZone() {
        for (int zone = 0; zone < 3; zone++) {
            String spill = zone == 0 ? "50 0 0" : zone == 1 ? "0 50 0" : "0 0 50";
            new Router().does("addBackend(2, " + zone + ", 1) * 2", "addBackend(2, " + (zone + 1) % 3 + ", 1)",
                    "configure(2, 1, 1, 9, 100, 0)", "setPattern(0, 0)", "setZoneLimit(100)", "rule('/=2')",
                    "ask('/', 0, " + zone + ") * 2 -> -6 2", "service(2) -> 1 1 9 100 0 300 3 1 2 1 " + spill);
        }
    }

    /** "BAD_ARGUMENT if there is no such service" */
    private static void noSuchService() {
        new Router().does("service(0, 5) -> 300", "service(3, 5) -> 300", "service(-1, 0) -> -2",
                "service(4, 0) -> -2", "service(min, 0) -> -2", "service(max, 0) -> -2",
                "service(4, 13) -> -2");
    }

    /** "or what is not from 0 to 12" */
    private static void what() {
        new Router().does("service(0, 0) -> 0", "service(0, 12) -> 0", "service(0, -1) -> -2",
                "service(3, 13) -> -2", "service(0, min) -> -2", "service(0, max) -> -2");
    }

    private static void nothingChanges() {
        Situations.changesNothing(Situations.USED, "service(0)", "service(3)", "service(4, 0)", "service(0, 13)");
    }
}
