/** setPattern. */
public final class Promise04Test {
    public static void main(String[] args) {
        ordinary();
        wrong();
        bits();
        Check.end();
    }

    private static void ordinary() {
        MeshRouter x = new MeshRouter();
        x.addBackend(0, 0, 3);
        Check.due("setPattern(0, 0)", x.setPattern(0, 0), 255);
        Check.due("setPattern(0, 255)", x.setPattern(0, 255), 0);
        Check.due("setPattern(0, 77)", x.setPattern(0, 77), 255);
        Check.due("backend(0, 3)", x.backend(0, 3), 77);
        x.mark();
        x.setPattern(0, 77);
        Check.due("the same pattern ends the marking", x.play(0), MeshRouter.NONE);
    }

    private static void wrong() {
        MeshRouter x = new MeshRouter();
        x.addBackend(0, 0, 3);
        x.mark();
        Check.due("setPattern(1, 1)", x.setPattern(1, 1), MeshRouter.NONE);
        Check.due("setPattern(-1, 1)", x.setPattern(-1, 1), MeshRouter.NONE);
        Check.due("setPattern(1, 256)", x.setPattern(1, 256), MeshRouter.NONE);
        Check.due("setPattern(0, 256)", x.setPattern(0, 256), MeshRouter.BAD_ARGUMENT);
        Check.due("setPattern(0, -1)", x.setPattern(0, -1), MeshRouter.BAD_ARGUMENT);
        Check.due("backend(0, 3)", x.backend(0, 3), 255);
        Check.due("play(0), still marked", x.play(0), 0);
    }

    private static void bits() {
        MeshRouter x = new MeshRouter();
        x.addBackend(0, 0, 1);
        x.configure(0, 0, 9, 1, 0, 0);
        x.setPattern(0, 0b01001101);
        Check.rule(x, "/=0");
        Check.same("ten attempts", Check.askOften(x, "/", 0, 10), "0 -6 0 0 -6 -6 0 -6 0 -6");
        Check.due("attempts", x.backend(0, 5), 10);
        Check.due("those that succeeded", x.backend(0, 6), 5);
        Check.due("setPattern(0, 4)", x.setPattern(0, 4), 0b01001101);
        Check.same("the numbering goes on", Check.askOften(x, "/", 0, 3), "0 -6 -6");
    }
}
