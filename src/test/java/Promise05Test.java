/** configure. */
public final class Promise05Test {
    public static void main(String[] args) {
        settings();
        previousPolicy();
        service();
        policy();
        limit();
        time();
        share();
        ratio();
        extremes();
        whatStays();
        endsTheMarking();
        Check.end();
    }

    /** "Sets the settings of a service", and of no other. */
    private static void settings() {
        new Router().does("configure(1, 2, 8, 17, 63, 99) -> 0", "service(0) -> 0 3 5 50 20 300 0 0 0 0 0 0 0",
                "service(1) -> 2 8 17 63 99 300 0 0 0 0 0 0 0", "service(2) -> 0 3 5 50 20 300 0 0 0 0 0 0 0",
                "service(3) -> 0 3 5 50 20 300 0 0 0 0 0 0 0");
    }

    /** "Returns the previous policy" */
    private static void previousPolicy() {
        new Router().does("configure(0, 2, 1, 1, 0, 0) -> 0", "configure(0, 1, 1, 1, 0, 0) -> 2",
                "configure(0, 0, 1, 1, 0, 0) -> 1", "configure(0, 0, 1, 1, 0, 0) -> 0");
    }

    /** "service: the service, 0 to 3" */
    private static void service() {
        new Router().does("configure(0, 1, 1, 1, 1, 1) -> 0", "service(0, 0) -> 1", "service(3, 0) -> 0",
                "configure(3, 1, 1, 1, 1, 1) -> 0", "service(3, 0) -> 1");
        refused("configure(-1, 1, 1, 1, 1, 1) -> -2", "configure(4, 1, 1, 1, 1, 1) -> -2");
    }

    /** "policy: the policy, 0 to 2" */
    private static void policy() {
        new Router().does("configure(2, 2, 1, 1, 1, 1) -> 0", "service(2, 0) -> 2",
                "configure(2, 0, 1, 1, 1, 1) -> 2", "service(2, 0) -> 0");
        refused("configure(0, -1, 1, 1, 1, 1) -> -2", "configure(0, 3, 1, 1, 1, 1) -> -2");
    }

    /** "limit: the failure limit, 1 to 9" */
    private static void limit() {
        new Router().does("configure(2, 0, 1, 1, 1, 1) -> 0", "service(2, 1) -> 1",
                "configure(2, 0, 9, 1, 1, 1) -> 0", "service(2, 1) -> 9");
        refused("configure(0, 1, 0, 1, 1, 1) -> -2", "configure(0, 1, 10, 1, 1, 1) -> -2");
    }

    /** "time: the ejection time, 1 to 20" */
    private static void time() {
        new Router().does("configure(2, 0, 1, 1, 1, 1) -> 0", "service(2, 2) -> 1",
                "configure(2, 0, 1, 20, 1, 1) -> 0", "service(2, 2) -> 20");
        refused("configure(0, 1, 1, 0, 1, 1) -> -2", "configure(0, 1, 1, 21, 1, 1) -> -2");
    }

    /** "share: the ejection share, 0 to 100" */
    private static void share() {
        new Router().does("configure(2, 0, 1, 1, 0, 1) -> 0", "service(2, 3) -> 0",
                "configure(2, 0, 1, 1, 100, 1) -> 0", "service(2, 3) -> 100");
        refused("configure(0, 1, 1, 1, -1, 1) -> -2", "configure(0, 1, 1, 1, 101, 1) -> -2");
    }

    /** "ratio: the ratio, 0 to 100" */
    private static void ratio() {
        new Router().does("configure(2, 0, 1, 1, 1, 0) -> 0", "service(2, 4) -> 0",
                "configure(2, 0, 1, 1, 1, 100) -> 0", "service(2, 4) -> 100");
        refused("configure(0, 1, 1, 1, 1, -1) -> -2", "configure(0, 1, 1, 1, 1, 101) -> -2");
    }

    private static void extremes() {
        refused("configure(min, 1, 1, 1, 1, 1) -> -2", "configure(max, 1, 1, 1, 1, 1) -> -2",
                "configure(0, min, 1, 1, 1, 1) -> -2", "configure(0, max, 1, 1, 1, 1) -> -2",
                "configure(0, 1, min, 1, 1, 1) -> -2", "configure(0, 1, max, 1, 1, 1) -> -2",
                "configure(0, 1, 1, min, 1, 1) -> -2", "configure(0, 1, 1, max, 1, 1) -> -2",
                "configure(0, 1, 1, 1, min, 1) -> -2", "configure(0, 1, 1, 1, max, 1) -> -2",
                "configure(0, 1, 1, 1, 1, min) -> -2", "configure(0, 1, 1, 1, 1, max) -> -2");
    }

    /** "What it remembers stays"; and its tokens, its counts, its spill and who is ejected. */
    private static void whatStays() {
        new Router().does("addBackend(0, 0, 1)", "addBackend(0, 0, 1)", "addBackend(0, 1, 1)",
                "configure(0, 2, 1, 7, 100, 50)", "setZoneLimit(100)", "rule('/=0')", "ask('/', 4, 0) -> 0",
                "setPattern(1, 0)", "ask('/', 5, 0) -> -6", "ask('/', 6, 0) -> 2", "backend(1, 9) -> 7",
                "kept(0) -> -1 -1 -1 -1 0 1 2 -1 -1 -1", "service(0) -> 2 1 7 100 50 450 3 1 3 2 50 0 0",
                "configure(0, 0, 5, 1, 0, 0) -> 2", "backend(1, 9) -> 7",
                "kept(0) -> -1 -1 -1 -1 0 1 2 -1 -1 -1", "service(0) -> 0 5 1 0 0 450 3 1 3 2 50 0 0",
                "configure(0, 2, 5, 1, 0, 0) -> 0", "ask('/', 6, 1) -> 2", "ask('/', 4, 0) -> 0");
    }

    /** "also if nothing is different afterwards" */
    private static void endsTheMarking() {
        Situations.USED.taken().does("play(0) -> 0", "configure(1, 1, 2, 3, 100, 9) -> 1", "play(0) -> -1",
                "count(11) -> 0");
    }

    private static void refused(String... calls) {
        Situations.changesNothing(Situations.NEW, calls);
        Situations.changesNothing(Situations.USED, calls);
    }
}
