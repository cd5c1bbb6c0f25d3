/** As many of everything as there may be at once. */
public final class FullHouseTest {
    public static void main(String[] args) {
        for (int policy = 0; policy < 3; policy++) {
            longestTexts(policy);
            longestRecording(policy);
        }
        pictures();
        Check.end();
    }

    /** Twelve backends, eight rules of forty characters and paths of forty. */
    private static Steps full(int policy) {
        return x -> {
            for (int i = 0; i < 12; i++) {
                x.does("addBackend(" + i % 2 * 3 + ", " + i % 3 + ", 9) -> " + i,
                        "setPattern(" + i + ", " + i * 21 + ")");
            }
            for (int i = 0; i < 8; i++) {
                x.does("append(47, 1)", "append(97, 17)", "type('[" + i + "-8]=0:9,3:9,1:9~3*4') -> 39",
                        "addRule() -> " + i);
            }
            x.does("configure(0, " + policy + ", 1, 20, 100, 100) -> 0",
                    "configure(3, " + policy + ", 1, 20, 100, 100) -> 0");
        };
    }

    private static void longestTexts(int policy) {
        Router x = full(policy).taken();
        Router model = full(policy).takenByModel();
        x.does("rule('/=0') -> -3", "addBackend(0, 0, 1) -> -3");
        for (int i = 0; i < 8; i++) {
            x.does("print(" + i + ") -> 39");
            String[] calls = {"append(47, 1)", "append(97, 39)", "match(" + i + ")", "foresee(" + i + ", 0)",
                "request(" + i + ", 0)", "trace(3, 0)", "count(7)", "count(8)"};
            for (String call : calls) {
                Check.due(call, x.asks(call), model.asks(call));
            }
        }
        x.does("moveRule(0, 7) -> 7", "moveRule(7, 0) -> 7", "removeRule(0) * 8 -> 7 6 5 4 3 2 1 0");
    }

    private static void longestRecording(int policy) {
        Router x = full(policy).taken();
        Router model = full(policy).takenByModel();
        x.does("mark() -> 12");
        model.does("mark() -> 12");
        for (int i = 0; i < 60; i++) {
            String[] calls = {"append(47, 1)", "append(97, 39)", "request(" + i % 10 + ", " + i % 3 + ")",
                    "count(11)"};
            for (String call : calls) {
                Check.due(call, x.asks(call), model.asks(call));
            }
        }
        x.does("count(11) -> 60", "play(0) -> 0");
        for (int condition = 0; condition < 5; condition++) {
            String call = "play(" + condition + ")";
            Check.due(call, x.asks(call), model.asks(call));
            call = "answeredIf(" + condition + ")";
            Check.due(call, x.asks(call), model.asks(call));
        }
        x.does("tick(50) -> 50", "count(11) -> 0", "play(0) -> -1");
    }

    private static void pictures() {
        Steps full = Situations.FULL.then("save()", "addBackend(0, 0, 1) -> -3", "rule('/=0') -> -3");
        Check.same("the state", Picture.ofState(full.then("restore()")), Picture.ofState(Situations.FULL));
    }
}
