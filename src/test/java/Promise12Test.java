/** request: its errors, its answers, and what it counts. */
public final class Promise12Test {
    public static void main(String[] args) {
        errors();
        answers();
        firstRule();
        Check.end();
    }

    private static void errors() {
        MeshRouter x = new MeshRouter();
        x.addBackend(0, 0, 1);
        Check.rule(x, "/=0");
        Check.ask(x, "/", 0, 0);
        x.mark();
        String before = Check.all(x);
        String[] texts = {"/", "/", "/", "/", "", "a", "/0", "/A", "/=0", "a"};
        int[] headers = {-1, 10, 0, 0, 0, 0, 0, 0, 0, Integer.MAX_VALUE};
        int[] zones = {0, 0, -1, 3, 0, 0, 0, 0, 0, 0};
        for (int i = 0; i < texts.length; i++) {
            int want = i < 4 || i == 9 ? MeshRouter.BAD_ARGUMENT : MeshRouter.BAD_TEXT;
            Check.due("request of " + texts[i], Check.ask(x, texts[i], headers[i], zones[i]), want);
            Check.same("nothing changed, the text is empty", Check.all(x), before);
        }
        Check.due("request", Check.ask(x, "/", 0, 0), 0);
        Check.due("count(13)", x.count(13), 0);
    }

    private static void answers() {
        MeshRouter x = new MeshRouter();
        x.addBackend(0, 0, 1);
        Check.due("no rule", Check.ask(x, "/a", 0, 0), MeshRouter.NO_ROUTE);
        Check.rule(x, "/a[1-8]=0");
        Check.rule(x, "/b=1,2,3");
        Check.due("a header below", Check.ask(x, "/a", 0, 0), MeshRouter.NO_ROUTE);
        Check.due("a header above", Check.ask(x, "/a", 9, 0), MeshRouter.NO_ROUTE);
        Check.due("another path", Check.ask(x, "/c", 5, 0), MeshRouter.NO_ROUTE);
        Check.due("a backend", Check.ask(x, "/ab", 1, 0), 0);
        Check.due("a backend", Check.ask(x, "/a", 8, 2), 0);
        Check.due("none", Check.ask(x, "/b", 8, 2), MeshRouter.NO_BACKEND);
        x.addBackend(2, 0, 0);
        Check.due("none with weight", Check.ask(x, "/b", 8, 2), MeshRouter.NO_BACKEND);
        x.setPattern(0, 0);
        Check.due("a failing one", Check.ask(x, "/a", 5, 1), MeshRouter.FAILED);
        int[] counts = {2, 2, 9, 2, 4, 2, 1, 3, 0, 0, 0};
        for (int what = 0; what < counts.length; what++) {
            Check.due("count(" + what + ")", x.count(what), counts[what]);
        }
        Check.same("service 0", Check.service(x, 0), "0 3 5 50 20 360 1 0 3 2 0 0 0");
        Check.same("service 1", Check.service(x, 1), "0 3 5 50 20 300 0 0 0 0 0 0 0");
    }

    private static void firstRule() {
        MeshRouter x = new MeshRouter();
        for (int i = 0; i < 4; i++) {
            x.addBackend(i, 0, 1);
        }
        Check.rule(x, "/a/b=3");
        Check.rule(x, "/a[0-4]=2");
        Check.rule(x, "/a=1");
        Check.rule(x, "/=0");
        Check.due("request", Check.ask(x, "/a/bc", 9, 0), 3);
        Check.due("request", Check.ask(x, "/a/", 4, 0), 2);
        Check.due("request", Check.ask(x, "/a/", 5, 0), 1);
        Check.due("request", Check.ask(x, "//", 5, 0), 0);
    }
}
