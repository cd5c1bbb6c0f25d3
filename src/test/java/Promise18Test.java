/** target. */
public final class Promise18Test {
    public static void main(String[] args) {
        MeshRouter x = new MeshRouter();
        Check.due("target(0, 0, 0)", x.target(0, 0, 0), MeshRouter.NONE);
        x.addBackend(3, 0, 1);
        x.addBackend(1, 0, 1);
        Check.rule(x, "/a=3:2,1:3,0:9");
        Check.rule(x, "/b=1");
        Check.ask(x, "/a", 0, 0);
        Check.same("rule 0", Check.targets(x, 0), "3,2,2,0 1,3,-2,1 0,9,0,0");
        Check.ask(x, "/a", 0, 0);
        Check.same("rule 0", Check.targets(x, 0), "3,2,-1,1 1,3,1,1 0,9,0,0");
        Check.same("rule 1", Check.targets(x, 1), "1,1,0,0");
        Check.due("target(0, 3, 0)", x.target(0, 3, 0), MeshRouter.NONE);
        Check.due("target(0, -1, 0)", x.target(0, -1, 0), MeshRouter.NONE);
        Check.due("target(1, 1, 0)", x.target(1, 1, 0), MeshRouter.NONE);
        Check.due("target(2, 0, 0)", x.target(2, 0, 0), MeshRouter.NONE);
        Check.due("target(-1, 0, 0)", x.target(-1, 0, 0), MeshRouter.NONE);
        Check.due("target(0, 3, 4)", x.target(0, 3, 4), MeshRouter.NONE);
        Check.due("target(0, 0, 4)", x.target(0, 0, 4), MeshRouter.BAD_ARGUMENT);
        Check.due("target(0, 2, -1)", x.target(0, 2, -1), MeshRouter.BAD_ARGUMENT);
        Check.end();
    }
}
