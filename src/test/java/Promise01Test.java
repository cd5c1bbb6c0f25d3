/** A new object, and the constants. */
public final class Promise01Test {
    public static void main(String[] args) {
        constants();
        withoutBackendsAndRules();
        services();
        zoneLimit();
        nothingElse();
        severalObjects();
        Check.end();
    }

    private static void constants() {
        Check.due("NONE", MeshRouter.NONE, -1);
        Check.due("BAD_ARGUMENT", MeshRouter.BAD_ARGUMENT, -2);
        Check.due("FULL", MeshRouter.FULL, -3);
        Check.due("NO_ROUTE", MeshRouter.NO_ROUTE, -4);
        Check.due("NO_BACKEND", MeshRouter.NO_BACKEND, -5);
        Check.due("FAILED", MeshRouter.FAILED, -6);
        Check.due("BAD_TEXT", MeshRouter.BAD_TEXT, -7);
    }

    /** "Creates a router without backends and rules." */
    private static void withoutBackendsAndRules() {
        new Router().does("counts() -> 0 0 0 0 0 0 0 0 0 0 0 0 0 0", "backend(0, 0) -> -1", "print(0) -> -1",
                "target(0, 0, 0) -> -1", "setWeight(0, 1) -> -1", "setPattern(0, 1) -> -1",
                "removeRule(0) -> -1", "moveRule(0, 0) -> -1", "matched('/', 0) -> -1", "ask('/', 0, 0) -> -4");
    }

    /**
     * "All services have policy 0, the failure limit 3, the ejection time 5, the ejection share 50,
     * the ratio 20 and 300 tokens."
     */
    private static void services() {
        Router x = new Router();
        for (int i = 0; i < 4; i++) {
            x.does("service(" + i + ") -> 0 3 5 50 20 300 0 0 0 0 0 0 0",
                    "kept(" + i + ") -> -1 -1 -1 -1 -1 -1 -1 -1 -1 -1");
        }
    }

    /** "the zone limit is 70": asked for, and as it works, on both sides of it. */
    private static void zoneLimit() {
        new Router().does("setZoneLimit(1) -> 70");
        Steps sevenOfTenLeft = Steps.of("addBackend(0, 0, 3)", "addBackend(0, 0, 7)", "addBackend(0, 1, 1)",
                "configure(0, 1, 1, 20, 100, 0)", "rule('/=0')", "setPattern(0, 0)", "ask('/', 0, 0) -> -6");
        sevenOfTenLeft.taken().does("ask('/', 0, 0) -> 1", "service(0, 10) -> 0");
        sevenOfTenLeft.then("setWeight(1, 6)").taken()
                .does("ask('/', 0, 0) -> 2", "service(0, 10) -> 95");
    }

    private static void nothingElse() {
        new Router().does("trace(0, 0) -> -1", "printed(0) -> -1", "play(0) -> -1", "answeredIf(0) -> -1",
                "restore() -> -1", "match(0) -> -7", "addRule() -> -100");
    }

    /** Objects share nothing. */
    private static void severalObjects() {
        String before = Picture.of(Steps.of());
        Situations.USED.taken();
        Situations.FULL.taken();
        Check.same("a new object beside used ones", Picture.of(Steps.of()), before);
        Router one = new Router().does("type('/a')", "addBackend(0, 0, 1) -> 0");
        Router other = new Router().does("type('/')", "addBackend(1, 0, 1) -> 0");
        one.does("count(13) -> 2", "backend(0, 0) -> 0");
        other.does("count(13) -> 1", "backend(0, 0) -> 1");
    }
}
