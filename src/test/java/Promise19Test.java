/** trace. */
public final class Promise19Test {
    public static void main(String[] args) {
        MeshRouter x = new MeshRouter();
        x.addBackend(0, 0, 1);
        x.addBackend(0, 1, 1);
        x.addBackend(0, 1, 1);
        x.configure(0, 0, 1, 9, 34, 0);
        x.setZoneLimit(50);
        x.setPattern(0, 0);
        x.setPattern(1, 0);
        Check.rule(x, "/a=0~0*3");
        Check.rule(x, "/b=1");
        Check.due("request", Check.ask(x, "/a", 0, 1), 2);
        Check.same("trace", Check.trace(x), "1,0,1,1 2,1,1,0");
        Check.due("trace(2, 0)", x.trace(2, 0), MeshRouter.NONE);
        Check.due("trace(-1, 0)", x.trace(-1, 0), MeshRouter.NONE);
        Check.due("trace(2, 4)", x.trace(2, 4), MeshRouter.NONE);
        Check.due("trace(0, 4)", x.trace(0, 4), MeshRouter.BAD_ARGUMENT);
        Check.due("trace(1, -1)", x.trace(1, -1), MeshRouter.BAD_ARGUMENT);
        Check.ask(x, "/a", 0, 9);
        Check.ask(x, "!", 0, 0);
        x.tick(1);
        x.addBackend(0, 0, 9);
        Check.same("the trace stays", Check.trace(x), "1,0,1,1 2,1,1,0");
        x.setWeight(3, 0);
        Check.due("request", Check.ask(x, "/a", 0, 0), 2);
        Check.same("trace", Check.trace(x), "0,0,1,0 2,1,0,0");
        Check.due("request", Check.ask(x, "/b", 0, 0), MeshRouter.NO_BACKEND);
        Check.due("no attempt", x.count(12), 0);
        Check.due("request", Check.ask(x, "/a", 0, 2), 2);
        Check.same("trace", Check.trace(x), "2,1,0,0");
        Check.due("request", Check.ask(x, "/c", 0, 0), MeshRouter.NO_ROUTE);
        Check.due("no rule", x.trace(0, 0), MeshRouter.NONE);
        fourAttempts();
        Check.end();
    }

    private static void fourAttempts() {
        MeshRouter x = new MeshRouter();
        for (int i = 0; i < 5; i++) {
            x.addBackend(0, 0, 1);
            x.setPattern(i, 0);
        }
        Check.rule(x, "/=0*4");
        x.configure(0, 0, 9, 1, 0, 100);
        Check.due("request", Check.ask(x, "/", 0, 0), MeshRouter.FAILED);
        Check.same("trace", Check.trace(x), "0,0,1,0 1,0,1,0 2,0,1,0 3,0,1,0");
    }
}
