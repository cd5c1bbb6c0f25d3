/** setZoneLimit. */
public final class Promise06Test {
    public static void main(String[] args) {
        limit();
        endsTheMarking();
        Check.end();
    }

    /** "limit: the zone limit, 1 to 100"; "Returns the previous zone limit". */
    private static void limit() {
        new Router().does("setZoneLimit(1) -> 70", "setZoneLimit(100) -> 1", "setZoneLimit(55) -> 100",
                "setZoneLimit(55) -> 55");
        for (Steps situation : new Steps[] {Situations.NEW, Situations.USED}) {
            Situations.changesNothing(situation, "setZoneLimit(0) -> -2", "setZoneLimit(101) -> -2",
                    "setZoneLimit(-1) -> -2", "setZoneLimit(min) -> -2", "setZoneLimit(max) -> -2");
        }
    }

    /** "also if nothing is different afterwards" */
    private static void endsTheMarking() {
        Situations.USED.taken().does("play(0) -> 0", "setZoneLimit(99) -> 99", "play(0) -> -1", "count(11) -> 0");
    }
}
