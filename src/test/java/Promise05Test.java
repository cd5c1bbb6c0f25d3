/** configure. */
public final class Promise05Test {
    public static void main(String[] args) {
        ordinary();
        wrong();
        whatStays();
        Check.end();
    }

    private static void ordinary() {
        MeshRouter x = new MeshRouter();
        Check.due("configure", x.configure(1, 2, 9, 20, 100, 99), 0);
        Check.same("service 1", Check.service(x, 1), "2 9 20 100 99 300 0 0 0 0 0 0 0");
        Check.due("configure", x.configure(1, 1, 1, 1, 0, 0), 2);
        Check.same("service 1", Check.service(x, 1), "1 1 1 0 0 300 0 0 0 0 0 0 0");
        Check.same("service 2", Check.service(x, 2), "0 3 5 50 20 300 0 0 0 0 0 0 0");
        x.mark();
        Check.due("configure", x.configure(1, 1, 1, 1, 0, 0), 1);
        Check.due("the same settings end the marking", x.play(0), MeshRouter.NONE);
        Check.due("configure", x.configure(3, 0, 3, 5, 50, 100), 0);
        Check.due("ratio", x.service(3, 4), 100);
    }

    private static void wrong() {
        MeshRouter x = new MeshRouter();
        x.mark();
        String before = Check.all(x);
        int[][] calls = {{-1, 0, 1, 1, 0, 0}, {4, 0, 1, 1, 0, 0}, {0, -1, 1, 1, 0, 0},
            {0, 3, 1, 1, 0, 0}, {0, 1, 0, 1, 0, 0}, {0, 1, 10, 1, 0, 0}, {0, 1, 1, 0, 0, 0},
            {0, 1, 1, 21, 0, 0}, {0, 1, 1, 1, -1, 0}, {0, 1, 1, 1, 101, 0}, {0, 1, 1, 1, 0, -1},
            {0, 1, 1, 1, 0, 101}, {Integer.MIN_VALUE, 1, 1, 1, 1, 1}};
        for (int[] c : calls) {
            Check.due("a wrong configure", x.configure(c[0], c[1], c[2], c[3], c[4], c[5]),
                    MeshRouter.BAD_ARGUMENT);
        }
        Check.same("nothing changed", Check.all(x), before);
    }

    private static void whatStays() {
        MeshRouter x = new MeshRouter();
        x.addBackend(0, 0, 1);
        x.configure(0, 2, 1, 7, 100, 50);
        Check.rule(x, "/=0");
        Check.ask(x, "/", 4, 0);
        x.setPattern(0, 0);
        Check.ask(x, "/", 4, 0);
        Check.due("ejected", x.backend(0, 9), 7);
        x.configure(0, 0, 5, 1, 0, 0);
        Check.due("still ejected", x.backend(0, 9), 7);
        Check.due("remembered(0, 4)", x.remembered(0, 4), 0);
        Check.due("tokens", x.service(0, 5), 400);
        Check.due("chosen", x.service(0, 8), 2);
    }
}
