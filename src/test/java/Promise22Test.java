/** printed. */
public final class Promise22Test {
    private static final Steps PRINTED = Steps.of("rule('/b[1-2]=3:4,0~1*2')", "print(0) -> 17");

    public static void main(String[] args) {
        emptyAtFirst();
        eachCharacter();
        noSuchIndex();
        longest();
        stays();
        nothingChanges();
        Check.end();
    }

    /** "the printed text, which is empty at first" */
    private static void emptyAtFirst() {
        new Router().does("printed(0) -> -1", "type('/a')", "printed(0) -> -1", "request(0, 0)", "rule('/=0')",
                "printed(0) -> -1");
    }

    private static void eachCharacter() {
        Router x = PRINTED.taken();
        String text = "/b[1-2]=3:4,0~1*2";
        for (int i = 0; i < text.length(); i++) {
            x.does("printed(" + i + ") -> " + (int) text.charAt(i));
        }
    }

    /** "NONE if there is no such index" */
    private static void noSuchIndex() {
        PRINTED.taken().does("printed(0) -> 47", "printed(16) -> 50", "printed(17) -> -1", "printed(-1) -> -1",
                "printed(39) -> -1", "printed(40) -> -1", "printed(min) -> -1", "printed(max) -> -1",
                "rule('/c=2')", "print(1) -> 4", "printed(3) -> 50", "printed(4) -> -1", "printed(16) -> -1");
    }

    private static void longest() {
        new Router().does("append(47, 38)", "type('=1')", "addRule()", "print(0) -> 40", "printed(39) -> 49",
                "printed(40) -> -1");
    }

    /** "The printed text is not saved, and restoring leaves it"; it stays when its rule is gone, too. */
    private static void stays() {
        Router x = PRINTED.taken().does("save()", "rule('/c=2')", "print(1)", "restore()");
        Check.due("the printed text", x.printed(), "/c=2");
        x.does("removeRule(0)", "rule('/d=1')", "append(97, 40)", "request(0, 0)");
        Check.due("the printed text", x.printed(), "/c=2");
        x.does("removeRule(0) -> 0");
        Check.due("the printed text", x.printed(), "/c=2");
    }

    private static void nothingChanges() {
        Situations.changesNothing(Situations.USED, "printed(0)", "printed(8)", "printed(9) -> -1",
                "printed(-1) -> -1");
    }
}
