/** service. */
public final class Promise16Test {
    public static void main(String[] args) {
        MeshRouter x = new MeshRouter();
        x.addBackend(1, 0, 1);
        x.addBackend(1, 0, 1);
        x.addBackend(1, 1, 1);
        x.addBackend(1, 1, 0);
        x.addBackend(2, 1, 1);
        x.configure(1, 1, 1, 6, 40, 30);
        x.setPattern(0, 0);
        x.setZoneLimit(80);
        Check.rule(x, "/=1:2,2");
        Check.same("answers", Check.askOften(x, "/", 0, 4), "-6 4 2 1");
        Check.same("service 1", Check.service(x, 1), "1 1 6 40 30 390 3 1 3 2 24 0 0");
        Check.same("service 2", Check.service(x, 2), "0 3 5 50 20 320 1 0 1 1 0 0 0");
        Check.due("service(-1, 0)", x.service(-1, 0), MeshRouter.BAD_ARGUMENT);
        Check.due("service(4, 0)", x.service(4, 0), MeshRouter.BAD_ARGUMENT);
        Check.due("service(0, -1)", x.service(0, -1), MeshRouter.BAD_ARGUMENT);
        Check.due("service(3, 13)", x.service(3, 13), MeshRouter.BAD_ARGUMENT);
        Check.end();
    }
}
