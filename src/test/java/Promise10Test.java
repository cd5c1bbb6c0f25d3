/** moveRule. */
public final class Promise10Test {
    public static void main(String[] args) {
        order();
        comesAlong();
        theFirstOneCounts();
        noSuchRule();
        noPosition();
        endsTheMarking();
        Check.end();
    }

    /** "Moves a rule to another position; the order of the others stays", for all pairs of eight. */
    private static void order() {
        for (int rules = 1; rules <= 8; rules++) {
            for (int rule = 0; rule < rules; rule++) {
                for (int position = 0; position < rules; position++) {
                    moved(rules, rule, position);
                }
            }
        }
    }

    private static void moved(int rules, int rule, int position) {
        Router x = new Router();
        StringBuilder letters = new StringBuilder();
        for (int i = 0; i < rules; i++) {
            letters.append((char) ('a' + i));
            x.does("rule('/" + letters.charAt(i) + "=" + i % 4 + "') -> " + i);
        }
        x.does("moveRule(" + rule + ", " + position + ") -> " + Math.abs(rule - position));
        char letter = letters.charAt(rule);
        letters.deleteCharAt(rule).insert(position, letter);
        for (int i = 0; i < rules; i++) {
            x.does("shown(" + i + ") -> /" + letters.charAt(i) + "=" + (letters.charAt(i) - 'a') % 4);
        }
        x.does("count(1) -> " + rules);
    }

    private static void comesAlong() {
        new Router().does("addBackend(1, 0, 1)", "rule('/a[1-8]=0,2')", "rule('/b[2-3]=1,3~1*2')", "rule('/c=2')",
                "ask('/b', 2, 0) -> 0", "moveRule(1, 2) -> 1", "shown(2) -> /b[2-3]=1,3~1*2",
                "targets(2) -> 1,1,0,1 3,1,0,0", "moveRule(2, 0) -> 2", "targets(0) -> 1,1,0,1 3,1,0,0");
    }

    /** "The rule of a request is the first one" */
    private static void theFirstOneCounts() {
        new Router().does("rule('/a=0')", "rule('/=1')", "matched('/a', 0) -> 0", "moveRule(1, 0) -> 1",
                "matched('/a', 0) -> 0", "shown(0) -> /=1", "shown(1) -> /a=0");
    }

    /** "NONE if there is no such rule", which is listed before BAD_ARGUMENT. */
    private static void noSuchRule() {
        Situations.changesNothing(Situations.NEW, "moveRule(0, 0) -> -1", "moveRule(-1, -1) -> -1");
        Situations.USED.taken().does("moveRule(1, 0) -> 1");
        Situations.changesNothing(Situations.USED, "moveRule(2, 0) -> -1", "moveRule(-1, 0) -> -1",
                "moveRule(2, 2) -> -1", "moveRule(-1, 2) -> -1", "moveRule(min, 0) -> -1",
                "moveRule(max, 0) -> -1");
        Situations.changesNothing(Situations.FULL, "moveRule(8, 0) -> -1");
    }

    /** "BAD_ARGUMENT if position is no number of a rule" */
    private static void noPosition() {
        Situations.changesNothing(Situations.USED, "moveRule(0, -1) -> -2", "moveRule(0, 2) -> -2",
                "moveRule(1, 2) -> -2", "moveRule(0, min) -> -2", "moveRule(0, max) -> -2");
        Situations.changesNothing(Situations.FULL, "moveRule(0, 8) -> -2", "moveRule(7, 8) -> -2");
    }

    /** "also if nothing is different afterwards" */
    private static void endsTheMarking() {
        Situations.USED.taken().does("play(0) -> 0", "moveRule(1, 0) -> 1", "play(0) -> -1", "count(11) -> 0");
        Situations.USED.taken().does("play(0) -> 0", "moveRule(1, 1) -> 0", "play(0) -> -1", "count(11) -> 0");
    }
}
