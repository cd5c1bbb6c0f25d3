/** addRule, and the grammar of rules. */
public final class Promise08Test {
    private static final String WHOLE = "/ab[1-8]=0:2,1:3,2:9~1*3";
    private static final String LETTERS = "abcdefghijklmnopqrstuvwxyz";
    private static final String AFTER_PREFIX = LETTERS + "/[=";

    /** What can continue each beginning of the whole rule. */
    private static final String[] CONTINUES = {"/", AFTER_PREFIX, AFTER_PREFIX, AFTER_PREFIX, "0123456789",
        "-", "123456789", "]", "=", "0123", ":,~*", "123456789", ",~*", "123", ":,~*", "123456789", ",~*",
        "23", ":~*", "123456789", "~*", "0123", "*", "1234", ""};

    public static void main(String[] args) {
        number();
        lastOne();
        everyCharacterEverywhere();
        endsTooEarly();
        prefix();
        range();
        target();
        differentServices();
        threeTargets();
        shadow();
        attempts();
        firstErrorOfTheText();
        missingParts();
        length();
        emptyAfterwards();
        full();
        endsTheMarking();
        Check.end();
    }

    private static void taken(String... texts) {
        for (String text : texts) {
            new Router().does("rule('" + text + "') -> 0", "shown(0) -> " + text);
        }
    }

    private static void refused(String text, int offset) {
        new Router().does("rule('" + text + "') -> " + (-100 - offset), "count(1) -> 0", "count(13) -> 0");
    }

    /** "Returns the number of the rule", and "There are at most 8 rules, numbered from 0". */
    private static void number() {
        new Router().does("rule('/=0') * 8 -> 0 1 2 3 4 5 6 7", "count(1) -> 8");
    }

    /** "Adds the rule that the text describes, as the last one." */
    private static void lastOne() {
        new Router().does("rule('/a=1') -> 0", "rule('/=2') -> 1", "removeRule(0) -> 1", "rule('/b=3') -> 1",
                "shown(0) -> /=2", "shown(1) -> /b=3", "targets(1) -> 3,1,0,0");
    }

    /**
     * "The error offset of a text is the offset of the first character that cannot continue a rule":
     * each of the 128 characters after each beginning of a rule.
     */
    private static void everyCharacterEverywhere() {
        for (int length = 0; length < CONTINUES.length; length++) {
            for (int code = 0; code < 128; code++) {
                boolean continues = CONTINUES[length].indexOf(code) >= 0;
                boolean complete = continues && length >= 9 && length % 2 == 1;
                int due = complete ? 0 : -100 - length - (continues ? 1 : 0);
                new Router().does("type('" + WHOLE.substring(0, length) + "')", "append(" + code + ", 1)",
                        "addRule() -> " + due, "count(13) -> 0", "count(1) -> " + (complete ? 1 : 0));
            }
        }
    }

    /** "or the length of the text if it ends too early" */
    private static void endsTooEarly() {
        for (String text : new String[] {"", "/", "/a", "/a[", "/a[0", "/a[0-", "/a[0-0", "/a[0-0]", "/a=",
            "/=0:", "/=0,", "/=0,1:", "/=0,1,", "/=0,1,2:", "/=0~", "/=0*", "/=0~1*"}) {
            refused(text, text.length());
        }
        new Router().does("append(47, 40)", "addRule() -> -140");
    }

    /** "prefix: "/" { letter or "/" }", and "A letter is from a to z." */
    private static void prefix() {
        taken("/=0", "//=0", "/a=0", "/z=0", "/a/=0", "/zz//a=0", "/" + LETTERS + "=0");
        refused("", 0);
        refused("=0", 0);
        refused("a=0", 0);
        refused("/`=0", 1);
        refused("/{=0", 1);
        refused("/A=0", 1);
        refused("/Z=0", 1);
        refused("/a.=0", 2);
        refused("/a0=0", 2);
        refused("/a =0", 2);
        refused("/-=0", 1);
    }

    /** "The range ... its second digit is not less than the first one." */
    private static void range() {
        taken("/[0-0]=0", "/[0-8]=0", "/[5-5]=0", "/[5-6]=0", "/[9-9]=0", "/[1-9]=0");
        refused("/[5-4]=0", 4);
        refused("/[9-8]=0", 4);
        refused("/[1-0]=0", 4);
        refused("/[/-5]=0", 2);
        refused("/[:-9]=0", 2);
        refused("/[5-:]=0", 4);
        refused("/[5]=0", 3);
        refused("/[5-67]=0", 5);
        refused("/[10-2]=0", 3);
        refused("/[]=0", 2);
        refused("/[1-2][1-2]=0", 6);
        refused("[1-2]=0", 0);
        refused("/=0[1-2]", 3);
    }

    /** "A service is a digit from 0 to 3"; "The digit of a target is its weight, from 1 to 9" */
    private static void target() {
        taken("/=0", "/=3", "/=3:2", "/=3:9");
        refused("/=/", 2);
        refused("/=4", 2);
        refused("/=00", 3);
        refused("/=0:0", 4);
        refused("/=0::", 4);
        refused("/=0:10", 5);
        refused("/=:1", 2);
        new Router().does("rule('/=0:1') -> 0", "target(0, 0, 1) -> 1");
    }

    /** "a service that is a target already ... cannot continue one" */
    private static void differentServices() {
        taken("/=0,1", "/=3,2", "/=0,1,2", "/=3,0,1");
        refused("/=0,0", 4);
        refused("/=3,3", 4);
        refused("/=0:5,0:6", 6);
        refused("/=0,1,0", 6);
        refused("/=0,1,1", 6);
        refused("/=3:1,2:1,3:1", 10);
    }

    /** "and the "," before a fourth target, cannot continue one" */
    private static void threeTargets() {
        taken("/=0", "/=0,1", "/=0,1,2", "/=3,2,1");
        refused("/=0,1,2,", 7);
        refused("/=0,1,2,3", 7);
        refused("/=0,1,2:9,3", 9);
        refused("/=,0", 2);
    }

    /** "[ "~" service ]": also one that is a target. */
    private static void shadow() {
        taken("/=0~0", "/=0~3", "/=0,1~1", "/=0,1,2~2", "/=1~3*2");
        refused("/=0~4", 4);
        refused("/=0~/", 4);
        refused("/=0~11", 5);
        refused("/=0~1~2", 5);
        refused("/=0~1,2", 5);
        refused("/=0~1:2", 5);
        refused("/~0=0", 1);
    }

    /** "the digit after * is the greatest number of attempts, from 1 to 4" */
    private static void attempts() {
        taken("/=0*2", "/=0*4", "/=0~0*4");
        new Router().does("rule('/=0*1') -> 0", "shown(0) -> /=0");
        refused("/=0*0", 4);
        refused("/=0*5", 4);
        refused("/=0*", 4);
        refused("/=0*11", 5);
        refused("/=0*2*2", 5);
        refused("/=0*2~1", 5);
        refused("/=0*2,1", 5);
    }

    private static void firstErrorOfTheText() {
        refused("/A=9*9", 1);
        refused("/=9*9", 2);
        refused("/=0*9~9", 4);
        refused("a/A", 0);
    }

    /**
     * "The range is from 0 to 9 if it is missing", the weight is "1 if it is missing", the number of
     * attempts "1 if it is missing", and there is no shadow then, whatever the rule before had.
     */
    private static void missingParts() {
        Router x = new Router().does("addBackend(0, 0, 1)", "addBackend(0, 0, 1)", "addBackend(1, 0, 1)",
                "setPattern(0, 0)", "configure(0, 0, 9, 1, 0, 0)", "rule('/[3-4]=0:7~1*3') -> 0",
                "rule('/=0') -> 1", "removeRule(0) -> 1", "matched('/', 0) -> 0", "matched('/', 9) -> 0",
                "targets(0) -> 0,1,0,0", "ask('/', 0, 0) -> -6", "count(7) -> 1", "count(8) -> 0");
        x.does("rule('/=0*2') -> 1", "moveRule(1, 0) -> 1", "ask('/', 0, 0) * 2 -> 1 1", "count(7) -> 4");
    }

    /** A text of 40 characters may be a rule; the longest rule without a long prefix has 22. */
    private static void length() {
        new Router().does("append(47, 38)", "type('=0') -> 40", "addRule() -> 0", "print(0) -> 40");
        taken("/[1-8]=3:9,2:8,1:7~0*4");
        new Router().does("append(47, 1)", "append(97, 18)", "type('[1-8]=3:9,2:8,1:7~0*4') -> 40",
                "addRule() -> 0", "print(0) -> 40", "shown(0) -> /" + "a".repeat(18) + "[1-8]=3:9,2:8,1:7~0*4");
        new Router().does("append(47, 36)", "type('=0:0') -> 40", "addRule() -> -139");
    }

    /** "The text is empty afterwards, also after an error", and nothing else changes after one. */
    private static void emptyAfterwards() {
        new Router().does("rule('/=0') -> 0", "count(13) -> 0", "addRule() -> -100", "count(13) -> 0");
        for (Steps situation : new Steps[] {Situations.NEW, Situations.USED, Situations.FULL}) {
            Situations.emptiesTheText(situation, "", "addRule() -> -100");
            Situations.emptiesTheText(situation, "/ab[3-5]=0:3,1:4~2*", "addRule() -> -119");
            Situations.emptiesTheText(situation, "/a=0,0", "addRule() -> -105");
        }
        Situations.emptiesTheText(Situations.FULL, "/ab[3-5]=0:3,1:4~2*3", "addRule() -> -3");
    }

    /** "FULL if there are 8 rules", which is listed behind the syntax errors. */
    private static void full() {
        new Router().does("rule('/=0') * 7", "rule('/a=1') -> 7", "rule('/b=1') -> -3", "count(1) -> 8",
                "shown(7) -> /a=1", "rule('/=4') -> -102", "removeRule(7) -> 7", "rule('/b=1') -> 7");
        Situations.emptiesTheText(Situations.FULL, "/=0", "addRule() -> -3");
        Situations.emptiesTheText(Situations.FULL, "/=0:", "addRule() -> -104");
    }

    private static void endsTheMarking() {
        Situations.USED.taken().does("play(0) -> 0", "rule('/zz=3') -> 2", "play(0) -> -1", "count(11) -> 0");
    }
}
