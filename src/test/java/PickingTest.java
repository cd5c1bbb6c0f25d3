/** Picking: zones and spill, and the three policies (promise 12). */
public final class PickingTest {
    public static void main(String[] args) {
        onlyNearOnes();
        noNearOnes();
        noOthers();
        atTheZoneLimit();
        spillOfHundred();
        spillOfNinetyNine();
        spillStays();
        spillAboveHundred();
        withoutTheFraction();
        onlyOthersRemain();
        wholeWeightOfTheZone();
        spillOfEachZoneAndService();
        furtherAttempts();
        furtherAttemptsSpill();
        leastUsed();
        leastUsedByAttempts();
        leastUsedOfTheNearOnes();
        sticky();
        stickyNoCandidate();
        stickyForEachValue();
        onlyStickyRemembers();
        Check.end();
    }

    /**
     * Zone 0 has backend 0 with a weight, and backend 1 with another, which is ejected; zone 1 has
     * backend 2.
     */
    private static Steps left(int weight, int ejected, int zoneLimit) {
        return Steps.of("addBackend(0, 0, 1)", "addBackend(0, 0, " + ejected + ")", "addBackend(0, 1, 1)",
                "configure(0, 0, 1, 20, 100, 0)", "setPattern(1, 0)", "rule('/=0')", "setWeight(0, 0)",
                "ask('/', 0, 0) -> -6", "backend(1, 9) -> 20", "setWeight(0, " + weight + ")",
                "setZoneLimit(" + zoneLimit + ")");
    }

    /** "Let the near ones be the candidates in the zone": they remain, if all of the zone are left. */
    private static void onlyNearOnes() {
        new Router().does("addBackend(0, 0, 9)", "addBackend(0, 1, 1) * 2", "rule('/=0')", "setZoneLimit(100)",
                "ask('/', 0, 1) * 4 -> 1 2 1 2", "ask('/', 0, 0) * 3 -> 0 0 0", "service(0, 10) -> 0",
                "service(0, 11) -> 0");
    }

    /** "If there are no near ones ... nothing changes." */
    private static void noNearOnes() {
        new Router().does("addBackend(0, 0, 2)", "addBackend(0, 1, 1)", "rule('/=0')",
                "ask('/', 0, 2) * 3 -> 0 1 0", "service(0) -> 0 3 5 50 20 360 2 0 3 3 0 0 0");
        left(1, 3, 100).taken().does("setWeight(0, 0)", "ask('/', 0, 0) * 2 -> 2 2", "service(0, 10) -> 0");
    }

    /** "or no others, nothing changes" */
    private static void noOthers() {
        left(1, 3, 100).taken().does("setWeight(2, 0)", "ask('/', 0, 0) * 2 -> 0 0", "service(0, 10) -> 0");
        new Router().does("addBackend(0, 0, 1)", "rule('/=0')", "setZoneLimit(100)", "ask('/', 0, 0) -> 0");
    }

    /** "If 100 * n is at least the zone limit times m, only the near ones remain." */
    private static void atTheZoneLimit() {
        left(1, 3, 25).taken().does("ask('/', 0, 0) * 3 -> 0 0 0", "service(0, 10) -> 0");
        left(1, 3, 24).taken().does("ask('/', 0, 0) * 3 -> 0 0 0", "service(0, 10) -> 0");
        left(1, 3, 26).taken().does("ask('/', 0, 0) -> 2", "service(0, 10) -> 96");
        left(7, 3, 70).taken().does("ask('/', 0, 0) -> 0", "service(0, 10) -> 0");
        left(7, 3, 71).taken().does("ask('/', 0, 0) -> 2", "service(0, 10) -> 98");
        left(9, 9, 50).taken().does("ask('/', 0, 0) -> 0", "service(0, 10) -> 0");
        left(1, 9, 1).taken().does("ask('/', 0, 0) -> 0", "service(0, 10) -> 0");
        left(1, 9, 10).taken().does("ask('/', 0, 0) -> 0", "service(0, 10) -> 0");
        left(1, 9, 11).taken().does("ask('/', 0, 0) -> 2", "service(0, 10) -> 90");
        left(9, 1, 90).taken().does("ask('/', 0, 0) -> 0", "service(0, 10) -> 0");
    }

    /** "if it is at least 100 then, it is decreased by 100 and only the near ones remain": exactly 100 */
    private static void spillOfHundred() {
        left(1, 3, 100).taken().does("ask('/', 0, 0) -> 2", "service(0, 10) -> 25", "ask('/', 0, 0) -> 2",
                "service(0, 10) -> 50", "ask('/', 0, 0) -> 2", "service(0, 10) -> 75", "ask('/', 0, 0) -> 0",
                "service(0, 10) -> 0", "trace() -> 0,1,1,0", "ask('/', 0, 0) -> 2", "service(0, 10) -> 25");
    }

    /** "and otherwise only the others": at 99 */
    private static void spillOfNinetyNine() {
        // 10000 * 5 / (72 * 7) is a little more than 99.
        left(5, 2, 72).taken().does("ask('/', 0, 0) -> 2", "service(0, 10) -> 99", "ask('/', 0, 0) -> 0",
                "service(0, 10) -> 98", "ask('/', 0, 0) -> 0", "service(0, 10) -> 97");
        left(5, 2, 71).taken().does("ask('/', 0, 0) -> 0", "service(0, 10) -> 0");
        // 33 three times.
        left(1, 2, 100).taken().does("ask('/', 0, 0) * 3 -> 2 2 2", "service(0, 10) -> 99", "ask('/', 0, 0) -> 0",
                "service(0, 10) -> 32");
    }

    /** Where the near ones suffice, the spill stays as it is. */
    private static void spillStays() {
        left(1, 3, 100).taken().does("ask('/', 0, 0) * 3 -> 2 2 2", "service(0, 10) -> 75", "setZoneLimit(25)",
                "ask('/', 0, 0) * 2 -> 0 0", "service(0, 10) -> 75", "setZoneLimit(100)", "setWeight(2, 0)",
                "ask('/', 0, 0) -> 0", "service(0, 10) -> 75", "ask('/', 0, 2) -> 0", "service(0, 10) -> 75",
                "setWeight(2, 1)", "ask('/', 0, 0) -> 0", "service(0, 10) -> 0");
    }

    private static void spillAboveHundred() {
        left(6, 3, 100).taken().does("ask('/', 0, 0) -> 2", "service(0, 10) -> 66", "ask('/', 0, 0) -> 0",
                "service(0, 10) -> 32", "ask('/', 0, 0) -> 2", "service(0, 10) -> 98", "ask('/', 0, 0) -> 0",
                "service(0, 10) -> 64");
    }

    /** "is increased by 10000 * n / (zone limit * m), without the fraction" */
    private static void withoutTheFraction() {
        // 10000 by 1000, 990, 910 and 900.
        left(1, 9, 100).taken().does("ask('/', 0, 0) -> 2", "service(0, 10) -> 10");
        left(1, 9, 99).taken().does("ask('/', 0, 0) -> 2", "service(0, 10) -> 10");
        left(1, 9, 91).taken().does("ask('/', 0, 0) -> 2", "service(0, 10) -> 10");
        left(1, 9, 90).taken().does("ask('/', 0, 0) -> 2", "service(0, 10) -> 11");
        // 85 and a fraction that is nearly 1.
        left(7, 4, 74).taken().does("ask('/', 0, 0) -> 2", "service(0, 10) -> 85");
        // 20000 / 300 is 66 and a fraction, of which three do not make 200.
        left(2, 1, 100).taken().does("ask('/', 0, 0) * 3 -> 2 0 2", "service(0, 10) -> 98");
    }

    /** All others remain, those of both other zones. */
    private static void onlyOthersRemain() {
        left(1, 9, 100).taken().does("addBackend(0, 2, 1) -> 3", "addBackend(0, 1, 1) -> 4",
                "ask('/', 0, 0) * 4 -> 2 3 4 2", "service(0, 10) -> 40", "backend(0, 5) -> 0",
                "backend(0, 4) -> 0");
    }

    /** "and m that of all members of the service in the zone": ejected ones too, but none without weight */
    private static void wholeWeightOfTheZone() {
        left(1, 3, 100).taken().does("setWeight(1, 0)", "ask('/', 0, 0) -> 0", "service(0, 10) -> 0",
                "setWeight(1, 1)", "ask('/', 0, 0) -> 2", "service(0, 10) -> 50");
        left(1, 3, 25).taken().does("addBackend(1, 0, 9)", "addBackend(0, 1, 9)", "addBackend(0, 0, 0)",
                "ask('/', 0, 0) * 2 -> 0 0", "service(0, 10) -> 0");
    }

    /** "the spill of the service for this zone, at first 0" */
    private static void spillOfEachZoneAndService() {
        Router x = new Router().does("addBackend(0, 0, 1) * 2", "addBackend(0, 1, 1) * 2",
                "addBackend(0, 2, 1) * 2", "setPattern(0, 254)", "setPattern(2, 254)", "setPattern(4, 254)",
                "configure(0, 0, 1, 20, 100, 0)", "setZoneLimit(100)", "rule('/=0')", "ask('/', 0, 0) -> -6",
                "ask('/', 0, 1) -> -6", "ask('/', 0, 2) -> -6");
        x.does("ask('/', 0, 2) -> 1", "service(0, 12) -> 50", "ask('/', 0, 2) -> 5", "service(0, 12) -> 0",
                "ask('/', 0, 1) -> 5", "service(0, 11) -> 50", "service(0, 12) -> 0", "ask('/', 0, 0) -> 3",
                "ask('/', 0, 2) -> 1", "ask('/', 0, 2) -> 5", "ask('/', 0, 1) -> 3",
                "service(0) -> 0 1 20 100 0 300 6 3 10 7 50 0 0", "service(1, 10) -> 0");
        new Router().does("addBackend(0, 0, 1) * 2", "addBackend(0, 1, 1)", "addBackend(1, 0, 1) * 2",
                "addBackend(1, 1, 1)", "setPattern(0, 0)", "setPattern(3, 0)", "configure(0, 1, 1, 20, 100, 0)",
                "configure(1, 1, 1, 20, 100, 0)", "setZoneLimit(100)", "rule('/a=0')", "rule('/b=1')",
                "ask('/a', 0, 0) * 2 -> -6 2", "service(0, 10) -> 50", "service(1, 10) -> 0",
                "ask('/b', 0, 0) * 2 -> -6 5", "service(1, 10) -> 50", "ask('/a', 0, 0) -> 1",
                "service(0, 10) -> 0", "service(1, 10) -> 50");
    }

    /** "On further attempts, the near ones are those of the candidates that were not attempted" */
    private static void furtherAttempts() {
        Steps two = Steps.of("addBackend(0, 0, 2)", "addBackend(0, 0, 1)", "addBackend(0, 1, 1)",
                "configure(0, 0, 9, 1, 0, 100)", "setPattern(0, 0)", "rule('/=0*2')");
        // 100 * 1 is less than 70 * 3, and than 34 * 3, but not than 33 * 3.
        two.taken().does("ask('/', 0, 0) -> 2", "trace() -> 0,0,1,0 2,1,0,0", "service(0, 10) -> 47");
        two.taken().does("setZoneLimit(34)", "ask('/', 0, 0) -> 2", "service(0, 10) -> 98");
        two.taken().does("setZoneLimit(33)", "ask('/', 0, 0) -> 1", "trace() -> 0,0,1,0 1,1,1,0",
                "service(0, 10) -> 0");
        // None of the near ones is left, or none of the others.
        two.taken().does("setWeight(1, 0)", "ask('/', 0, 0) -> 2", "service(0, 10) -> 0");
        two.taken().does("setWeight(2, 0)", "ask('/', 0, 0) -> 1", "service(0, 10) -> 0");
    }

    /** "and m is the weight of all members in the zone as before": 3 of 6 twice, and then 1 of 6 */
    private static void furtherAttemptsSpill() {
        new Router().does("addBackend(0, 0, 3)", "addBackend(0, 0, 2)", "addBackend(0, 0, 1)",
                "addBackend(0, 1, 1) * 2", "configure(0, 0, 9, 1, 0, 100)", "setPattern(0, 0)",
                "setPattern(1, 0)", "setPattern(3, 0)", "setZoneLimit(80)", "rule('/=0*4')",
                "ask('/', 0, 0) -> 4", "trace() -> 0,0,1,0 3,0,0,0 1,0,1,0 4,1,0,0", "service(0, 10) -> 44");
    }

    /** "1, least used: the one with the least quotient of the number of its attempts and its weight" */
    private static void leastUsed() {
        Router x = new Router().does("configure(0, 1, 9, 1, 0, 100)", "addBackend(0, 0, 1)", "addBackend(0, 0, 2)",
                "addBackend(0, 0, 3)", "rule('/=0*4')", "ask('/', 0, 0) * 7 -> 0 1 2 2 1 2 0",
                "backend(0, 4) -> 0", "backend(1, 4) -> 0", "backend(2, 4) -> 0");
        x.does("setPattern(1, 0)", "setPattern(2, 0)", "ask('/', 0, 0) -> 0",
                "trace() -> 1,0,1,0 2,0,1,0 0,1,1,0");
    }

    /** "of several the one with the lowest number": of equal quotients, the fractions included. */
    private static void leastUsedByAttempts() {
        new Router().does("configure(0, 1, 9, 1, 0, 100)", "addBackend(0, 0, 4)", "addBackend(0, 0, 2)",
                "rule('/=0')", "ask('/', 0, 0) * 3 -> 0 1 0", "ask('/', 0, 0) -> 0", "ask('/', 0, 0) -> 1",
                "ask('/', 0, 0) -> 0");
        new Router().does("configure(0, 1, 9, 1, 0, 100)", "addBackend(0, 0, 8)", "addBackend(0, 0, 9)",
                "rule('/=0')", "ask('/', 0, 0) * 2 -> 0 1", "ask('/', 0, 0) -> 1", "ask('/', 0, 0) -> 0",
                "backend(0, 5) -> 2");
        // Failed attempts count, shadow attempts do not.
        new Router().does("configure(0, 1, 9, 1, 0, 100)", "addBackend(0, 0, 1) * 2", "setPattern(0, 0)",
                "rule('/=0~0')", "ask('/', 0, 0) * 4 -> -6 1 -6 1");
        new Router().does("configure(0, 1, 9, 1, 0, 100)", "addBackend(0, 0, 1) * 2", "setPattern(1, 0)",
                "rule('/=0~0')", "ask('/', 0, 0) * 6 -> 0 -6 0 -6 0 -6");
    }

    private static void leastUsedOfTheNearOnes() {
        new Router().does("configure(0, 1, 9, 1, 0, 100)", "addBackend(0, 0, 1)", "addBackend(0, 1, 1)",
                "rule('/=0')", "ask('/', 0, 0) * 3 -> 0 0 0", "ask('/', 0, 2) * 3 -> 1 1 1",
                "ask('/', 0, 2) -> 0");
    }

    /** "2, sticky: the backend that the service remembers for the header value of the request" */
    private static void sticky() {
        new Router().does("configure(0, 2, 9, 1, 0, 100)", "addBackend(0, 0, 1) * 2", "rule('/=0')",
                "ask('/', 3, 0) -> 0", "remembered(0, 3) -> 0", "backend(0, 4) -> -1", "backend(1, 4) -> 1",
                "ask('/', 3, 0) * 2 -> 0 0", "backend(0, 4) -> -1", "backend(1, 4) -> 1", "ask('/', 9, 0) -> 1",
                "ask('/', 0, 0) -> 0", "kept(0) -> 0 -1 -1 0 -1 -1 -1 -1 -1 1",
                "kept(1) -> -1 -1 -1 -1 -1 -1 -1 -1 -1 -1");
        // The one that failed is remembered, too.
        new Router().does("configure(0, 2, 9, 1, 0, 100)", "addBackend(0, 0, 1) * 2", "setPattern(0, 0)",
                "rule('/=0')", "ask('/', 0, 0) * 3 -> -6 -6 -6", "remembered(0, 0) -> 0");
    }

    /** "if it is a candidate; otherwise one is chosen by weights, and is remembered ... from then on" */
    private static void stickyNoCandidate() {
        Steps kept = Steps.of("configure(0, 2, 1, 3, 50, 100)", "addBackend(0, 0, 1)", "addBackend(0, 0, 1)",
                "rule('/=0')", "ask('/', 5, 0) -> 0");
        kept.taken().does("setWeight(0, 0)", "ask('/', 5, 0) -> 1", "setWeight(0, 1)", "ask('/', 5, 0) -> 1",
                "remembered(0, 5) -> 1");
        kept.taken().does("setPattern(0, 0)", "ask('/', 5, 0) -> -6", "remembered(0, 5) -> 0",
                "ask('/', 5, 0) -> 1", "tick(3)", "ask('/', 5, 0) -> 1", "remembered(0, 5) -> 1");
        Steps zones = Steps.of("configure(0, 2, 9, 1, 0, 100)", "addBackend(0, 0, 1)", "addBackend(0, 1, 1)",
                "rule('/=0')", "ask('/', 5, 0) -> 0");
        zones.taken().does("ask('/', 5, 2) -> 0", "ask('/', 5, 1) -> 1", "remembered(0, 5) -> 1",
                "ask('/', 5, 2) -> 1", "ask('/', 5, 0) -> 0", "remembered(0, 5) -> 0");
        // A further attempt is remembered in its turn.
        new Router().does("configure(0, 2, 9, 1, 0, 100)", "addBackend(0, 0, 1) * 2", "setPattern(0, 0)",
                "rule('/=0*2')", "ask('/', 5, 0) -> 1", "remembered(0, 5) -> 1", "ask('/', 5, 0) -> 1",
                "count(12) -> 1");
    }

    private static void stickyForEachValue() {
        Router x = new Router().does("configure(0, 2, 9, 1, 0, 100)", "addBackend(0, 0, 1) * 10", "rule('/=0')");
        for (int header = 0; header < 10; header++) {
            x.does("ask('/', " + header + ", 0) -> " + header);
        }
        for (int header = 9; header >= 0; header--) {
            x.does("ask('/', " + header + ", 0) -> " + header);
        }
    }

    /** "0, rounds: one of the candidates is chosen by weights": whatever is remembered */
    private static void onlyStickyRemembers() {
        new Router().does("addBackend(0, 0, 1) * 2", "rule('/=0')", "ask('/', 4, 0) * 3 -> 0 1 0",
                "kept(0) -> -1 -1 -1 -1 -1 -1 -1 -1 -1 -1", "configure(0, 1, 9, 1, 0, 0)",
                "ask('/', 4, 0) -> 1", "remembered(0, 4) -> -1", "configure(0, 2, 9, 1, 0, 0)",
                "ask('/', 4, 0) * 2 -> 1 1", "configure(0, 0, 9, 1, 0, 0)", "ask('/', 4, 0) * 2 -> 0 1",
                "remembered(0, 4) -> 1");
    }
}
