/** tick. */
public final class Promise14Test {
    public static void main(String[] args) {
        MeshRouter x = new MeshRouter();
        Check.due("tick(1)", x.tick(1), 1);
        Check.due("tick(50)", x.tick(50), 51);
        x.mark();
        Check.due("tick(0)", x.tick(0), MeshRouter.BAD_ARGUMENT);
        Check.due("tick(51)", x.tick(51), MeshRouter.BAD_ARGUMENT);
        Check.due("tick(-1)", x.tick(-1), MeshRouter.BAD_ARGUMENT);
        Check.due("count(10)", x.count(10), 51);
        Check.due("recorded", x.count(11), 0);
        Check.due("play(0), still marked", x.play(0), 0);
        ejected();
        Check.end();
    }

    private static void ejected() {
        MeshRouter x = new MeshRouter();
        x.addBackend(0, 0, 1);
        x.addBackend(1, 0, 1);
        x.setPattern(0, 0);
        x.setPattern(1, 0);
        x.configure(0, 0, 1, 4, 100, 0);
        x.configure(1, 0, 1, 2, 100, 0);
        Check.rule(x, "/=0,1");
        Check.same("answers", Check.askOften(x, "/", 0, 3), "-6 -6 -5");
        Check.due("tick(1)", x.tick(1), 1);
        Check.due("backend(0, 9)", x.backend(0, 9), 3);
        Check.due("backend(1, 9)", x.backend(1, 9), 1);
        Check.due("service(1, 7)", x.service(1, 7), 1);
        x.setWeight(0, 0);
        Check.due("tick(1)", x.tick(1), 2);
        Check.due("backend(0, 9), without weight", x.backend(0, 9), 2);
        Check.due("backend(1, 9)", x.backend(1, 9), 0);
        Check.due("service(1, 7)", x.service(1, 7), 0);
        Check.due("backend(1, 8), the number of ejections", x.backend(1, 8), 1);
        Check.due("request", Check.ask(x, "/", 0, 0), MeshRouter.FAILED);
        Check.due("tick(50)", x.tick(50), 52);
        Check.due("backend(0, 9)", x.backend(0, 9), 0);
        Check.due("backend(1, 9)", x.backend(1, 9), 0);
    }
}
