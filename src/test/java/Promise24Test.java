/** play, and the conditions; answeredIf beside it. */
public final class Promise24Test {
    public static void main(String[] args) {
        errors();
        startsFromTheCopy();
        furtherAttempts();
        ejection();
        policies();
        zoneLimit();
        zoneLimitOfOne();
        shadows();
        withoutRoute();
        headersAndZones();
        fullRecording();
        Check.end();
    }

    static void due(MeshRouter x, int condition, int changed, int answered) {
        String before = Check.all(x);
        Check.due("play(" + condition + ")", x.play(condition), changed);
        Check.due("answeredIf(" + condition + ")", x.answeredIf(condition), answered);
        Check.due("play(" + condition + ") again", x.play(condition), changed);
        Check.same("nothing changed", Check.all(x), before);
    }

    private static void errors() {
        MeshRouter x = new MeshRouter();
        Check.due("play(0)", x.play(0), MeshRouter.NONE);
        Check.due("play(-1)", x.play(-1), MeshRouter.BAD_ARGUMENT);
        Check.due("play(5)", x.play(5), MeshRouter.BAD_ARGUMENT);
        x.mark();
        Check.due("play(-1)", x.play(-1), MeshRouter.BAD_ARGUMENT);
        Check.due("play(5)", x.play(5), MeshRouter.BAD_ARGUMENT);
        for (int condition = 0; condition < 5; condition++) {
            due(x, condition, 0, 0);
        }
    }

    /** Needs the ticks in between, the numbers of the attempts and the time of the copy. */
    private static void startsFromTheCopy() {
        MeshRouter x = new MeshRouter();
        x.addBackend(0, 0, 1);
        x.setPattern(0, 0b10111110);
        x.configure(0, 0, 1, 2, 100, 0);
        Check.rule(x, "/=0");
        x.mark();
        Check.same("answers", Check.askOften(x, "/", 0, 2), "-6 -5");
        x.tick(1);
        Check.same("answers", Check.askOften(x, "/", 0, 1), "-5");
        x.tick(1);
        Check.same("answers", Check.askOften(x, "/", 0, 6), "0 0 0 0 0 -6");
        Check.ask(x, "x", 0, 0);
        Check.due("ejected again", Check.ask(x, "//", 0, 0), MeshRouter.NO_BACKEND);
        due(x, 0, 0, 5);
        due(x, 1, 0, 5);
        due(x, 3, 0, 5);
        due(x, 4, 0, 5);
        // Without ejection: -6 0, 0, 0 0 0 -6 0 -6, 0.
        due(x, 2, 4, 7);
    }

    private static void furtherAttempts() {
        MeshRouter x = new MeshRouter();
        x.addBackend(0, 0, 1);
        x.addBackend(0, 0, 1);
        x.setPattern(0, 0);
        x.configure(0, 0, 9, 1, 0, 100);
        Check.rule(x, "/=0*2");
        x.mark();
        Check.same("answers", Check.askOften(x, "/", 0, 4), "1 1 1 1");
        due(x, 0, 0, 4);
        due(x, 1, 2, 2);
    }

    private static void ejection() {
        MeshRouter x = new MeshRouter();
        x.addBackend(0, 0, 1);
        x.addBackend(0, 0, 1);
        x.setPattern(0, 0);
        x.configure(0, 0, 1, 9, 100, 0);
        Check.rule(x, "/=0");
        x.mark();
        Check.same("answers", Check.askOften(x, "/", 0, 4), "-6 1 1 1");
        due(x, 2, 1, 2);
        x.mark();
        Check.same("answers", Check.askOften(x, "/", 0, 2), "1 1");
        // What was ejected before the mark is so in the copy.
        due(x, 2, 0, 2);
        x.tick(9);
        Check.same("answers", Check.askOften(x, "/", 0, 4), "1 -6 1 1");
        due(x, 2, 1, 4);
    }

    private static void policies() {
        for (int policy = 0; policy < 3; policy++) {
            MeshRouter x = new MeshRouter();
            x.addBackend(1, 0, 1);
            x.addBackend(1, 0, 1);
            x.addBackend(1, 0, 2);
            x.configure(1, policy, 9, 1, 0, 0);
            Check.rule(x, "/=1");
            x.mark();
            String answers = Check.askOften(x, "/", 0, 4);
            String[] wants = {"2 0 1 2", "0 1 2 2", "2 2 2 2"};
            Check.same("answers", answers, wants[policy]);
            due(x, 0, 0, 4);
            due(x, 3, new int[] {0, 3, 2}[policy], 4);
        }
    }

    private static void zoneLimit() {
        MeshRouter x = new MeshRouter();
        x.addBackend(0, 0, 1);
        x.addBackend(0, 0, 3);
        x.addBackend(0, 1, 1);
        x.configure(0, 0, 1, 20, 100, 0);
        x.setPattern(1, 0);
        x.setZoneLimit(100);
        Check.rule(x, "/=0");
        Check.due("the request that ejects", Check.ask(x, "/", 0, 0), MeshRouter.FAILED);
        x.mark();
        Check.same("answers", Check.askOften(x, "/", 0, 4), "2 2 2 0");
        due(x, 4, 3, 4);
        due(x, 0, 0, 4);
    }

    /** The near weight of 1 is enough for 55 of the zone by a limit of 1, but not of 2. */
    private static void zoneLimitOfOne() {
        MeshRouter x = new MeshRouter();
        x.addBackend(0, 0, 1);
        x.addBackend(0, 1, 1);
        x.configure(0, 1, 1, 20, 100, 0);
        Check.rule(x, "/=0");
        for (int i = 2; i < 8; i++) {
            x.addBackend(0, 0, 9);
            x.setPattern(i, 0);
        }
        x.setZoneLimit(1);
        Check.same("answers", Check.askOften(x, "/", 0, 7), "0 -6 -6 -6 -6 -6 -6");
        x.setZoneLimit(2);
        x.mark();
        Check.same("answers", Check.askOften(x, "/", 0, 2), "1 0");
        due(x, 0, 0, 2);
        due(x, 4, 1, 2);
    }

    /** A request without a rule is no tick. */
    private static void withoutRoute() {
        MeshRouter x = new MeshRouter();
        x.addBackend(0, 0, 1);
        x.setPattern(0, 0b110);
        x.configure(0, 0, 1, 1, 100, 0);
        Check.rule(x, "/a=0");
        x.mark();
        Check.same("answers", Check.askOften(x, "/a", 0, 1), "-6");
        Check.same("answers", Check.askOften(x, "/b", 0, 1), "-4");
        Check.same("answers", Check.askOften(x, "/a", 0, 1), "-5");
        due(x, 0, 0, 0);
        due(x, 2, 1, 1);
    }

    private static void headersAndZones() {
        MeshRouter x = new MeshRouter();
        x.addBackend(0, 0, 1);
        x.addBackend(0, 1, 1);
        x.addBackend(0, 2, 1);
        x.addBackend(1, 0, 1);
        x.addBackend(1, 0, 1);
        x.configure(1, 2, 9, 1, 0, 0);
        Check.rule(x, "/a=0");
        Check.rule(x, "/b=1");
        x.mark();
        Check.due("zone 2", Check.ask(x, "/a", 0, 2), 2);
        Check.due("zone 1", Check.ask(x, "/a", 0, 1), 1);
        Check.due("zone 0", Check.ask(x, "/a", 0, 0), 0);
        Check.due("value 5", Check.ask(x, "/b", 5, 0), 3);
        Check.due("value 6", Check.ask(x, "/b", 6, 0), 4);
        Check.due("value 5", Check.ask(x, "/b", 5, 0), 3);
        Check.due("value 6", Check.ask(x, "/b", 6, 0), 4);
        Check.due("value 6", Check.ask(x, "/b", 6, 0), 4);
        due(x, 0, 0, 8);
        due(x, 3, 1, 8);
    }

    private static void fullRecording() {
        MeshRouter x = new MeshRouter();
        x.addBackend(0, 0, 1);
        x.addBackend(0, 0, 1);
        x.configure(0, 2, 9, 1, 0, 0);
        Check.rule(x, "/=0");
        x.mark();
        Check.askOften(x, "/", 0, 60);
        due(x, 0, 0, 60);
        due(x, 3, 30, 60);
    }

    private static void shadows() {
        MeshRouter x = new MeshRouter();
        x.addBackend(0, 0, 1);
        x.addBackend(0, 0, 1);
        x.setPattern(0, 0b0101);
        Check.rule(x, "/=0~0");
        x.mark();
        Check.askOften(x, "/", 0, 9);
        due(x, 0, 0, x.answeredIf(3));
    }
}
