/** answeredIf. */
public final class Promise25Test {
    public static void main(String[] args) {
        MeshRouter x = new MeshRouter();
        Check.due("answeredIf(0)", x.answeredIf(0), MeshRouter.NONE);
        Check.due("answeredIf(-1)", x.answeredIf(-1), MeshRouter.BAD_ARGUMENT);
        Check.due("answeredIf(5)", x.answeredIf(5), MeshRouter.BAD_ARGUMENT);
        x.addBackend(0, 0, 1);
        x.addBackend(0, 0, 1);
        x.setPattern(0, 0);
        x.configure(0, 2, 2, 9, 50, 0);
        Check.rule(x, "/=0*2");
        Check.rule(x, "/=1");
        x.mark();
        Check.due("answeredIf(5)", x.answeredIf(5), MeshRouter.BAD_ARGUMENT);
        for (int condition = 0; condition < 5; condition++) {
            Check.due("answeredIf(" + condition + ") of none", x.answeredIf(condition), 0);
        }
        Check.due("request", Check.ask(x, "/", 0, 0), 1);
        Check.due("request", Check.ask(x, "/", 0, 0), 1);
        Check.due("request", Check.ask(x, "/", 1, 0), 1);
        Check.due("request", Check.ask(x, "/", 2, 0), 1);
        Check.due("request", Check.ask(x, "/", 3, 0), 1);
        String before = Check.all(x);
        // With one attempt: 0 fails for value 0 and stays remembered, fails again and is ejected.
        int[] answered = {5, 3, 5, 5, 5};
        for (int condition = 0; condition < 5; condition++) {
            Check.due("answeredIf(" + condition + ")", x.answeredIf(condition), answered[condition]);
        }
        Check.same("nothing changed", Check.all(x), before);
        x.setWeight(0, 1);
        Check.due("answeredIf(0), ended", x.answeredIf(0), MeshRouter.NONE);
        Check.end();
    }
}
