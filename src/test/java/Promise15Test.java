/** backend. */
public final class Promise15Test {
    public static void main(String[] args) {
        MeshRouter x = new MeshRouter();
        x.addBackend(2, 1, 1);
        x.addBackend(2, 1, 3);
        x.setPattern(0, 0b101);
        x.configure(2, 0, 1, 7, 100, 0);
        Check.rule(x, "/=2~2");
        Check.same("answers", Check.askOften(x, "/", 1, 4), "1 0 1 1");
        x.setPattern(0, 0);
        Check.same("answers", Check.askOften(x, "/", 1, 3), "1 -6 1");
        Check.same("backend 0", Check.backend(x, 0), "2 1 1 0 -2 2 1 0 1 7 4 1");
        Check.same("backend 1", Check.backend(x, 1), "2 1 3 255 2 5 5 0 0 0 3 3");
        Check.due("another attempt", Check.ask(x, "/", 1, 0), 1);
        x.tick(7);
        Check.ask(x, "/", 0, 1);
        Check.due("a negative credit", x.backend(0, 4), -1);
        x.configure(2, 0, 9, 7, 100, 0);
        x.setPattern(1, 0);
        Check.askOften(x, "/", 1, 4);
        Check.due("a failure run", x.backend(1, 7), 3);
        Check.due("backend(-1, 0)", x.backend(-1, 0), MeshRouter.NONE);
        Check.due("backend(2, 0)", x.backend(2, 0), MeshRouter.NONE);
        Check.due("backend(2, 12)", x.backend(2, 12), MeshRouter.NONE);
        Check.due("backend(0, 12)", x.backend(0, 12), MeshRouter.BAD_ARGUMENT);
        Check.due("backend(1, -1)", x.backend(1, -1), MeshRouter.BAD_ARGUMENT);
        Check.due("backend(max, 0)", x.backend(Integer.MAX_VALUE, 0), MeshRouter.NONE);
        Check.end();
    }
}
