/** removeRule. */
public final class Promise09Test {
    public static void main(String[] args) {
        MeshRouter x = new MeshRouter();
        Check.due("removeRule(0) of none", x.removeRule(0), MeshRouter.NONE);
        x.addBackend(0, 0, 1);
        x.addBackend(1, 0, 1);
        Check.rule(x, "/a=0");
        Check.rule(x, "/b=0,1:2");
        Check.rule(x, "/c=1");
        Check.ask(x, "/b", 0, 0);
        x.mark();
        Check.due("removeRule(3)", x.removeRule(3), MeshRouter.NONE);
        Check.due("removeRule(-1)", x.removeRule(-1), MeshRouter.NONE);
        Check.due("play(0), still marked", x.play(0), 0);
        Check.due("removeRule(0)", x.removeRule(0), 2);
        Check.due("play(0), ended", x.play(0), MeshRouter.NONE);
        Check.same("rule 0", Check.print(x, 0), "/b=0,1:2");
        Check.same("its targets came along", Check.targets(x, 0), "0,1,1,0 1,2,-1,1");
        Check.same("rule 1", Check.print(x, 1), "/c=1");
        Check.due("print(2)", x.print(2), MeshRouter.NONE);
        Check.due("removeRule(1)", x.removeRule(1), 1);
        Check.due("no route any more", Check.ask(x, "/c", 0, 0), MeshRouter.NO_ROUTE);
        Check.due("removeRule(0)", x.removeRule(0), 0);
        Check.due("removeRule(0)", x.removeRule(0), MeshRouter.NONE);
        Check.due("addRule()", Check.rule(x, "/b=0,1:2"), 0);
        Check.same("a new rule", Check.targets(x, 0), "0,1,0,0 1,2,0,0");
        Check.end();
    }
}
