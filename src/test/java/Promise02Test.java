/** addBackend. */
public final class Promise02Test {
    public static void main(String[] args) {
        ordinary();
        wrong();
        full();
        placesUsedAgain();
        placeOfAnEjectedOne();
        Check.end();
    }

    private static void ordinary() {
        MeshRouter x = new MeshRouter();
        Check.due("addBackend(0, 0, 0)", x.addBackend(0, 0, 0), 0);
        Check.due("addBackend(3, 2, 9)", x.addBackend(3, 2, 9), 1);
        Check.same("backend 0", Check.backend(x, 0), "0 0 0 255 0 0 0 0 0 0 0 0");
        Check.same("backend 1", Check.backend(x, 1), "3 2 9 255 0 0 0 0 0 0 0 0");
        Check.due("service(0, 6)", x.service(0, 6), 0);
        Check.due("service(3, 6)", x.service(3, 6), 1);
        Check.due("count(0)", x.count(0), 2);
    }

    private static void wrong() {
        MeshRouter x = new MeshRouter();
        x.mark();
        int[][] calls = {{-1, 0, 0}, {4, 0, 0}, {0, -1, 0}, {0, 3, 0}, {0, 0, -1}, {0, 0, 10},
            {Integer.MIN_VALUE, 0, 0}, {0, Integer.MAX_VALUE, 0}, {0, 0, Integer.MIN_VALUE}};
        for (int[] call : calls) {
            Check.due("a wrong addBackend", x.addBackend(call[0], call[1], call[2]),
                    MeshRouter.BAD_ARGUMENT);
        }
        Check.due("count(0)", x.count(0), 0);
        Check.due("play(0), still marked", x.play(0), 0);
        x.addBackend(0, 0, 0);
        Check.due("play(0), ended", x.play(0), MeshRouter.NONE);
    }

    private static void full() {
        MeshRouter x = new MeshRouter();
        for (int i = 0; i < 12; i++) {
            Check.due("addBackend " + i, x.addBackend(i % 4, i % 3, 1), i);
        }
        x.mark();
        String before = Check.all(x);
        Check.due("the 13th addBackend", x.addBackend(0, 0, 1), MeshRouter.FULL);
        Check.due("a wrong 13th addBackend", x.addBackend(0, 3, 1), MeshRouter.BAD_ARGUMENT);
        Check.same("nothing changed", Check.all(x), before);
    }

    private static void placeOfAnEjectedOne() {
        MeshRouter x = new MeshRouter();
        Check.rule(x, "/=0");
        x.configure(0, 0, 1, 9, 100, 0);
        x.save();
        x.addBackend(0, 0, 1);
        x.setPattern(0, 0);
        Check.ask(x, "/", 0, 0);
        Check.due("backend(0, 9)", x.backend(0, 9), 9);
        x.restore();
        x.addBackend(0, 0, 1);
        Check.same("backend 0", Check.backend(x, 0), "0 0 1 255 0 0 0 0 0 0 0 0");
    }

    private static void placesUsedAgain() {
        MeshRouter x = new MeshRouter();
        x.save();
        x.addBackend(1, 2, 2);
        x.addBackend(1, 2, 3);
        x.addBackend(1, 0, 3);
        x.configure(1, 0, 1, 3, 100, 20);
        x.setPattern(0, 0b10100101);
        Check.rule(x, "/=1~1*3");
        Check.askOften(x, "/", 2, 7);
        x.configure(1, 0, 9, 3, 100, 20);
        x.tick(50);
        x.setPattern(0, 0);
        Check.askOften(x, "/", 2, 3);
        int[] fresh = {0, 0, 1, 255, 0, 0, 0, 0, 0, 0, 0, 0};
        for (int what = 0; what < 12; what++) {
            if (what != 9) {
                Check.differs("backend(0, " + what + ")", "" + x.backend(0, what), "" + fresh[what]);
            }
        }
        x.restore();
        Check.due("addBackend(0, 0, 1)", x.addBackend(0, 0, 1), 0);
        Check.same("backend 0", Check.backend(x, 0), "0 0 1 255 0 0 0 0 0 0 0 0");
    }
}
