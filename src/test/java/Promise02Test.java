/** addBackend. */
public final class Promise02Test {
    public static void main(String[] args) {
        aNewBackend();
        service();
        zone();
        weight();
        number();
        full();
        firstError();
        endsTheMarking();
        placesUsedAgain();
        Check.end();
    }

    /** "Adds a backend": its pattern is "at first 255", its credit 0, and it has made no attempts. */
    private static void aNewBackend() {
        new Router().does("addBackend(2, 1, 7) -> 0", "backend(0) -> 2 1 7 255 0 0 0 0 0 0 0 0",
                "addBackend(0, 2, 0) -> 1", "backend(1) -> 0 2 0 255 0 0 0 0 0 0 0 0", "count(0) -> 2");
    }

    /** "service: the service, 0 to 3" */
    private static void service() {
        new Router().does("addBackend(0, 0, 1) -> 0", "backend(0, 0) -> 0", "addBackend(3, 0, 1) -> 1",
                "backend(1, 0) -> 3");
        refused("addBackend(-1, 0, 1) -> -2", "addBackend(4, 0, 1) -> -2", "addBackend(min, 0, 1) -> -2",
                "addBackend(max, 0, 1) -> -2");
    }

    /** "zone: the zone, 0 to 2" */
    private static void zone() {
        new Router().does("addBackend(0, 0, 1) -> 0", "backend(0, 1) -> 0", "addBackend(0, 2, 1) -> 1",
                "backend(1, 1) -> 2");
        refused("addBackend(0, -1, 1) -> -2", "addBackend(0, 3, 1) -> -2", "addBackend(0, min, 1) -> -2",
                "addBackend(0, max, 1) -> -2");
    }

    /** "weight: the weight, 0 to 9" */
    private static void weight() {
        new Router().does("addBackend(0, 0, 0) -> 0", "backend(0, 2) -> 0", "service(0, 6) -> 0",
                "addBackend(0, 0, 1) -> 1", "service(0, 6) -> 1", "addBackend(0, 0, 9) -> 2",
                "backend(2, 2) -> 9", "service(0, 6) -> 2");
        refused("addBackend(0, 0, -1) -> -2", "addBackend(0, 0, 10) -> -2", "addBackend(0, 0, min) -> -2",
                "addBackend(0, 0, max) -> -2");
    }

    /** "Returns its number", the backends being "numbered from 0". */
    private static void number() {
        new Router().does("addBackend(3, 2, 1) * 12 -> 0 1 2 3 4 5 6 7 8 9 10 11");
    }

    /** "FULL if there are 12 backends" */
    private static void full() {
        new Router().does("addBackend(0, 0, 1) * 11", "addBackend(3, 0, 1) -> 11", "count(0) -> 12",
                "addBackend(0, 0, 1) -> -3", "count(0) -> 12", "backend(11, 0) -> 3", "backend(12, 0) -> -1");
        Situations.changesNothing(Situations.FULL, "addBackend(0, 0, 1) -> -3", "addBackend(3, 2, 0) -> -3");
    }

    /** "If several errors apply, the one that is listed first at the method is returned." */
    private static void firstError() {
        Situations.changesNothing(Situations.FULL, "addBackend(4, 0, 1) -> -2", "addBackend(0, 3, 1) -> -2",
                "addBackend(0, 0, 10) -> -2", "addBackend(-1, -1, -1) -> -2");
    }

    private static void endsTheMarking() {
        Situations.USED.taken().does("play(0) -> 0", "addBackend(3, 0, 0) -> 6", "play(0) -> -1",
                "count(11) -> 0");
    }

    /** A backend is new, also where there was another one before a restore. */
    private static void placesUsedAgain() {
        new Router().does("save() -> 0", "addBackend(1, 2, 2) -> 0", "addBackend(1, 2, 3)",
                "configure(1, 0, 1, 3, 100, 20)", "setPattern(0, 2)", "rule('/=1~1')", "ask('/', 0, 2) * 4",
                "backend(0) -> 1 2 2 2 -1 1 0 0 1 3 2 1", "restore() -> 0", "addBackend(0, 0, 1) -> 0",
                "backend(0) -> 0 0 1 255 0 0 0 0 0 0 0 0");
        new Router().does("save() -> 0", "addBackend(1, 2, 2) -> 0", "setPattern(0, 2)", "rule('/=1')",
                "ask('/', 0, 2) * 2 -> -6 0", "setPattern(0, 0)", "ask('/', 0, 2) -> -6",
                "backend(0) -> 1 2 2 0 0 3 1 1 0 0 0 0", "restore() -> 0", "addBackend(0, 0, 1) -> 0",
                "backend(0) -> 0 0 1 255 0 0 0 0 0 0 0 0");
    }

    private static void refused(String... calls) {
        Situations.changesNothing(Situations.NEW, calls);
        Situations.changesNothing(Situations.USED, calls);
    }
}
