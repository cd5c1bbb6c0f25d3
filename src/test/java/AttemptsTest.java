/** How a request is answered: the six steps, and the tokens (promise 12). */
public final class AttemptsTest {
    public static void main(String[] args) {
        noRule();
        noBackend();
        ejectedTargets();
        tokensWithEachRequest();
        tokensNotAboveThousand();
        tokensBeforeTheAttempts();
        asManyAsTheRuleAllows();
        hundredTokens();
        tokensForEachFurtherAttempt();
        noBackendLeft();
        lastAttemptCostsNothing();
        tokensOfTheService();
        onlyTheChosenService();
        ejectedOnesAreNotPicked();
        mirroredWhateverTheAnswer();
        Check.end();
    }

    /** Backends of weight 1 that fail, and are never ejected. */
    private static Router failing(int backends, int ratio, String rule) {
        Router x = new Router().does("configure(0, 0, 9, 1, 0, " + ratio + ")", "rule('" + rule + "')");
        for (int i = 0; i < backends; i++) {
            x.does("addBackend(0, 0, 1) -> " + i, "setPattern(" + i + ", 0)");
        }
        return x;
    }

    /** "If there is no rule, the answer is NO_ROUTE." */
    private static void noRule() {
        Router x = new Router().does("addBackend(0, 0, 1)", "ask('/', 0, 0) -> -4", "rule('/a[3-5]=0')",
                "ask('/', 4, 0) -> -4", "ask('/a', 2, 0) -> -4", "ask('/a', 6, 0) -> -4",
                "ask('/a', 3, 0) -> 0");
        x.does("count(4) -> 4", "count(2) -> 5", "service(0, 5) -> 320", "service(0, 8) -> 1");
    }

    /** "One of the targets ... that have available backends"; "If there is none, the answer is NO_BACKEND." */
    private static void noBackend() {
        Router x = new Router().does("rule('/=0,1,2')", "ask('/', 0, 0) -> -5", "addBackend(3, 0, 1)",
                "ask('/', 0, 0) -> -5", "addBackend(2, 0, 0)", "ask('/', 0, 0) -> -5", "count(5) -> 3",
                "count(7) -> 0", "count(12) -> 0", "targets(0) -> 0,1,0,0 1,1,0,0 2,1,0,0");
        for (int i = 0; i < 4; i++) {
            x.does("service(" + i + ", 5) -> 300", "service(" + i + ", 8) -> 0");
        }
        x.does("setWeight(1, 1)", "ask('/', 0, 0) * 2 -> 1 1", "targets(0) -> 0,1,0,0 1,1,0,0 2,1,0,2");
    }

    /** "A backend is available if it is a member of its service and not ejected." */
    private static void ejectedTargets() {
        new Router().does("addBackend(0, 0, 1)", "addBackend(1, 0, 1)", "configure(0, 0, 1, 2, 100, 20)",
                "setPattern(0, 254)", "rule('/=0:9,1')", "ask('/', 0, 0) * 2 -> -6 1",
                "targets(0) -> 0,9,-1,1 1,1,1,1", "tick(2)", "ask('/', 0, 0) -> 0", "setWeight(0, 0)",
                "ask('/', 0, 0) -> 1");
    }

    /** "The tokens of its service are increased by the ratio of the service" */
    private static void tokensWithEachRequest() {
        Router x = new Router().does("addBackend(0, 0, 1)", "rule('/=0*4')", "ask('/', 0, 0)",
                "service(0, 5) -> 320", "configure(0, 0, 3, 5, 50, 0)", "ask('/', 0, 0)",
                "service(0, 5) -> 320", "configure(0, 0, 3, 5, 50, 100)", "ask('/', 0, 0)",
                "service(0, 5) -> 420");
        x.does("setPattern(0, 0)", "ask('/', 0, 0) -> -6", "service(0, 5) -> 520");
    }

    /** "but not above 1000" */
    private static void tokensNotAboveThousand() {
        Steps nearly = Steps.of("addBackend(0, 0, 1)", "rule('/=0')", "configure(0, 0, 9, 1, 0, 99)",
                "ask('/', 0, 0) * 7", "service(0, 5) -> 993");
        nearly.then("configure(0, 0, 9, 1, 0, 6)", "ask('/', 0, 0)", "service(0, 5) -> 999").taken();
        nearly.then("configure(0, 0, 9, 1, 0, 7)", "ask('/', 0, 0)", "service(0, 5) -> 1000").taken();
        nearly.then("configure(0, 0, 9, 1, 0, 8)", "ask('/', 0, 0)", "service(0, 5) -> 1000").taken();
        nearly.then("ask('/', 0, 0)", "service(0, 5) -> 1000", "ask('/', 0, 0) * 2", "service(0, 5) -> 1000",
                "configure(0, 0, 9, 1, 0, 0)", "ask('/', 0, 0)", "service(0, 5) -> 1000").taken();
    }

    /** Step 3 comes before step 5: what is too much is lost even if further attempts are made. */
    private static void tokensBeforeTheAttempts() {
        failing(2, 100, "/=0*2").does("setPattern(0, 255)", "setPattern(1, 255)", "ask('/', 0, 0) * 8",
                "service(0, 5) -> 1000", "setPattern(0, 0)", "setPattern(1, 0)", "ask('/', 0, 0) -> -6",
                "count(12) -> 2", "service(0, 5) -> 900", "ask('/', 0, 0) -> -6", "service(0, 5) -> 900");
    }

    /** "and there have been fewer attempts than the rule allows": from 1 to 4 */
    private static void asManyAsTheRuleAllows() {
        for (int most = 1; most <= 4; most++) {
            failing(5, 100, "/=0*" + most).does("ask('/', 0, 0) -> -6", "count(12) -> " + most,
                    "count(7) -> " + most, "service(0, 5) -> " + (500 - 100 * most));
        }
        failing(5, 100, "/=0").does("ask('/', 0, 0) -> -6", "count(12) -> 1");
    }

    /** "the service has at least 100 tokens" */
    private static void hundredTokens() {
        Router x = failing(2, 0, "/=0*2").does("ask('/', 0, 0) * 3", "service(0, 5) -> 0", "ask('/', 0, 0) -> -6",
                "count(12) -> 1", "service(0, 5) -> 0", "configure(0, 0, 9, 1, 0, 99)", "ask('/', 0, 0) -> -6",
                "count(12) -> 1", "service(0, 5) -> 99");
        x.does("configure(0, 0, 9, 1, 0, 1)", "ask('/', 0, 0) -> -6", "count(12) -> 2", "service(0, 5) -> 0");
        failing(2, 0, "/=0*2").does("ask('/', 0, 0) * 3", "configure(0, 0, 9, 1, 0, 100)", "ask('/', 0, 0) -> -6",
                "count(12) -> 2", "service(0, 5) -> 0");
        failing(2, 0, "/=0*2").does("ask('/', 0, 0) * 2", "service(0, 5) -> 100", "configure(0, 0, 9, 1, 0, 1)",
                "ask('/', 0, 0) -> -6", "count(12) -> 2", "service(0, 5) -> 1");
    }

    /** "the tokens are decreased by 100, and it goes on with step 4": so often as there are tokens */
    private static void tokensForEachFurtherAttempt() {
        failing(5, 0, "/=0*4").does("ask('/', 0, 0) -> -6", "trace() -> 0,0,1,0 1,0,1,0 2,0,1,0 3,0,1,0",
                "service(0, 5) -> 0", "ask('/', 0, 0) -> -6", "trace() -> 4,0,1,0");
        failing(5, 0, "/=0*3").does("ask('/', 0, 0) -> -6", "service(0, 5) -> 100", "ask('/', 0, 0) -> -6",
                "count(12) -> 2", "service(0, 5) -> 0");
        failing(4, 0, "/=0*4").does("setPattern(2, 255)", "ask('/', 0, 0) -> 2",
                "trace() -> 0,0,1,0 1,0,1,0 2,1,1,0", "service(0, 5) -> 100", "count(3) -> 1", "count(6) -> 0");
    }

    /** "and it has an available backend that was not attempted for this request" */
    private static void noBackendLeft() {
        failing(2, 100, "/=0*4").does("ask('/', 0, 0) -> -6", "trace() -> 0,0,1,0 1,0,1,0", "service(0, 5) -> 300",
                "setWeight(1, 0)", "ask('/', 0, 0) -> -6", "trace() -> 0,0,1,0", "service(0, 5) -> 400",
                "setWeight(1, 1)", "addBackend(1, 0, 1)", "ask('/', 0, 0) -> -6", "count(12) -> 2",
                "service(0, 5) -> 400");
        failing(4, 100, "/=0*4").does("ask('/', 0, 0) -> -6", "count(12) -> 4", "service(0, 5) -> 100");
        failing(3, 100, "/=0*4").does("ask('/', 0, 0) -> -6", "count(12) -> 3", "service(0, 5) -> 200",
                "ask('/', 0, 0) -> -6", "count(12) -> 3");
    }

    /** "If it succeeds, the answer is its number": no tokens are spent for it, nor after the last attempt. */
    private static void lastAttemptCostsNothing() {
        failing(3, 0, "/=0*2").does("setPattern(0, 255)", "ask('/', 0, 0) -> 0", "service(0, 5) -> 300",
                "ask('/', 0, 0) -> -6", "count(12) -> 2", "service(0, 5) -> 200");
    }

    private static void tokensOfTheService() {
        failing(2, 0, "/a=0*2").does("addBackend(1, 0, 1) * 2", "setPattern(2, 0)", "setPattern(3, 0)",
                "rule('/b=1*2')", "ask('/a', 0, 0) * 4", "service(0, 5) -> 0", "service(1, 5) -> 300",
                "ask('/b', 0, 0) -> -6", "count(12) -> 2", "service(0, 5) -> 0", "service(1, 5) -> 220",
                "service(2, 5) -> 300");
    }

    /** A further attempt stays in the service that was chosen. */
    private static void onlyTheChosenService() {
        failing(1, 0, "/=0:9,1*4").does("addBackend(1, 0, 1) -> 1", "ask('/', 0, 0) -> -6", "trace() -> 0,0,1,0",
                "service(0, 5) -> 300", "service(1, 8) -> 0");
    }

    /** "With a failed attempt, this happens before step 5": a backend ejected before is not available. */
    private static void ejectedOnesAreNotPicked() {
        failing(2, 0, "/=0*2").does("configure(0, 0, 1, 3, 50, 0)", "ask('/', 0, 0) -> -6",
                "trace() -> 0,0,1,1 1,0,1,0", "ask('/', 0, 0) -> -6", "trace() -> 1,0,1,0",
                "service(0, 5) -> 200");
        failing(2, 0, "/=0*2").does("configure(0, 0, 1, 3, 100, 0)", "ask('/', 0, 0) -> -6",
                "trace() -> 0,0,1,1 1,0,1,1", "ask('/', 0, 0) -> -5");
    }

    /** "If there is a rule with a shadow service, the request is mirrored, whatever the answer is." */
    private static void mirroredWhateverTheAnswer() {
        new Router().does("addBackend(2, 0, 1)", "addBackend(0, 0, 1)", "setPattern(1, 0)", "rule('/a=0~2')",
                "rule('/b=1~2')", "rule('/c=2~2')", "ask('/a', 0, 0) -> -6", "count(8) -> 1",
                "ask('/b', 0, 0) -> -5", "count(8) -> 2", "ask('/c', 0, 0) -> 0", "count(8) -> 3",
                "ask('/d', 0, 0) -> -4", "count(8) -> 3", "rule('/d=0')", "ask('/d', 0, 0) -> -6",
                "count(8) -> 3", "backend(0) -> 2 0 1 255 0 1 1 0 0 0 3 3");
    }
}
