/** remembered. */
public final class Promise17Test {
    public static void main(String[] args) {
        MeshRouter x = new MeshRouter();
        x.addBackend(3, 0, 1);
        x.addBackend(3, 0, 1);
        x.configure(3, 2, 9, 1, 0, 0);
        Check.rule(x, "/=3");
        Check.ask(x, "/", 9, 0);
        Check.ask(x, "/", 0, 0);
        Check.due("remembered(3, 9)", x.remembered(3, 9), 0);
        Check.due("remembered(3, 0)", x.remembered(3, 0), 1);
        Check.due("remembered(3, 1)", x.remembered(3, 1), MeshRouter.NONE);
        Check.due("remembered(0, 0)", x.remembered(0, 0), MeshRouter.NONE);
        Check.due("remembered(4, 0)", x.remembered(4, 0), MeshRouter.BAD_ARGUMENT);
        Check.due("remembered(-1, 0)", x.remembered(-1, 0), MeshRouter.BAD_ARGUMENT);
        Check.due("remembered(3, 10)", x.remembered(3, 10), MeshRouter.BAD_ARGUMENT);
        Check.due("remembered(3, -1)", x.remembered(3, -1), MeshRouter.BAD_ARGUMENT);
        Check.end();
    }
}
