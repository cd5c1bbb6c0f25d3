/** moveRule. */
public final class Promise10Test {
    public static void main(String[] args) {
        MeshRouter x = new MeshRouter();
        Check.due("moveRule(0, 0) of none", x.moveRule(0, 0), MeshRouter.NONE);
        x.addBackend(1, 0, 1);
        for (String text : new String[] {"/a=0", "/b=1", "/c=2", "/d=3", "/e=0,2"}) {
            Check.rule(x, text);
        }
        Check.ask(x, "/b", 0, 0);
        x.mark();
        Check.due("moveRule(5, 0)", x.moveRule(5, 0), MeshRouter.NONE);
        Check.due("moveRule(-1, 9)", x.moveRule(-1, 9), MeshRouter.NONE);
        Check.due("moveRule(0, 5)", x.moveRule(0, 5), MeshRouter.BAD_ARGUMENT);
        Check.due("moveRule(0, -1)", x.moveRule(0, -1), MeshRouter.BAD_ARGUMENT);
        Check.due("play(0), still marked", x.play(0), 0);
        Check.same("the order", order(x), "abcde");
        Check.due("moveRule(1, 3)", x.moveRule(1, 3), 2);
        Check.due("play(0), ended", x.play(0), MeshRouter.NONE);
        Check.same("the order", order(x), "acdbe");
        Check.same("the targets came along", Check.targets(x, 3), "1,1,0,1");
        Check.due("moveRule(4, 0)", x.moveRule(4, 0), 4);
        Check.same("the order", order(x), "eacdb");
        Check.due("moveRule(0, 4)", x.moveRule(0, 4), 4);
        Check.same("the order", order(x), "acdbe");
        x.mark();
        Check.due("moveRule(2, 2)", x.moveRule(2, 2), 0);
        Check.same("the order", order(x), "acdbe");
        Check.due("a move to its own place ends the marking", x.play(0), MeshRouter.NONE);
        Check.end();
    }

    private static String order(MeshRouter x) {
        StringBuilder letters = new StringBuilder();
        for (int i = 0; i < x.count(1); i++) {
            letters.append(Check.print(x, i).charAt(1));
        }
        return letters.toString();
    }
}
