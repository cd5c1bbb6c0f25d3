/** print. */
public final class Promise21Test {
    public static void main(String[] args) {
        missingParts();
        everyRange();
        replaces();
        length();
        noSuchRule();
        keepsTheMarking();
        onlyThePrintedText();
        Check.end();
    }

    private static void shows(String typed, String printed) {
        new Router().does("rule('" + typed + "') -> 0", "print(0) -> " + printed.length(),
                "shown(0) -> " + printed);
    }

    /** "parts that may be missing are missing if they say what is meant without them" */
    private static void missingParts() {
        shows("/=0", "/=0");
        shows("/[0-9]=0", "/=0");
        shows("/=0:1", "/=0");
        shows("/=0*1", "/=0");
        shows("/[0-9]=0:1*1", "/=0");
        shows("/[0-8]=0:2*2", "/[0-8]=0:2*2");
        shows("/[1-9]=0:9*4", "/[1-9]=0:9*4");
        shows("/=0:1,1:2,2:1", "/=0,1:2,2");
        shows("/=3:2,2:1,1:1", "/=3:2,2,1");
        shows("/=0~0", "/=0~0");
        shows("/=0:1~1*1", "/=0~1");
        shows("//zz/[0-9]=1:1,2:1,3:1~0*1", "//zz/=1,2,3~0");
        shows("/b[1-9]=3:9,2:1,1~3*3", "/b[1-9]=3:9,2,1~3*3");
    }

    private static void everyRange() {
        for (int first = 0; first <= 9; first++) {
            for (int last = first; last <= 9; last++) {
                String range = first == 0 && last == 9 ? "" : "[" + first + "-" + last + "]";
                shows("/q[" + first + "-" + last + "]=2", "/q" + range + "=2");
            }
        }
    }

    /** "The printed text replaces the one before": a shorter one the whole of a longer one. */
    private static void replaces() {
        Router x = new Router().does("rule('/a[0-8]=0:2,1~0*2')", "rule('/=3')", "print(0) -> 17",
                "print(1) -> 3");
        Check.due("the printed text", x.printed(), "/=3");
    }

    /** "Returns the length of the printed text": from 3 to 40 */
    private static void length() {
        new Router().does("rule('/=0')", "print(0) -> 3", "append(47, 38)", "type('=1')", "addRule() -> 1",
                "print(1) -> 40", "append(47, 19)", "type('[1-8]=0:2,1:3,3:4~2*4') -> 40", "addRule() -> 2",
                "print(2) -> 40", "append(47, 16)", "type('[0-9]=0:1,1:1,3:1~2*1') -> 37", "addRule() -> 3",
                "print(3) -> 24");
    }

    /** "NONE if there is no such rule": the text before stays then. */
    private static void noSuchRule() {
        Situations.changesNothing(Situations.NEW, "print(0) -> -1", "print(-1) -> -1");
        Situations.USED.taken().does("print(1) -> 9", "print(2) -> -1");
        Situations.changesNothing(Situations.USED, "print(2) -> -1", "print(-1) -> -1", "print(min) -> -1",
                "print(max) -> -1");
        Situations.FULL.taken().does("print(7) -> 15");
        Situations.changesNothing(Situations.FULL, "print(8) -> -1");
    }

    /** "A call of print does not end the marking." */
    private static void keepsTheMarking() {
        Situations.USED.taken().does("count(11) -> 9", "print(0) -> 19", "count(11) -> 9", "play(0) -> 0");
    }

    private static void onlyThePrintedText() {
        Situations.changesNothing(Situations.USED, "print(1) -> 9");
        Situations.changesNothing(Situations.USED.then("type('/ab=1')"), "print(1) -> 9");
        Situations.changesNothing(Situations.FULL, "print(7) -> 15");
    }
}
