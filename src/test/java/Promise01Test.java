/** A new object. */
public final class Promise01Test {
    public static void main(String[] args) {
        MeshRouter x = new MeshRouter();
        for (int what = 0; what < 14; what++) {
            Check.due("count(" + what + ")", x.count(what), 0);
        }
        for (int i = 0; i < 4; i++) {
            Check.same("service " + i, Check.service(x, i), "0 3 5 50 20 300 0 0 0 0 0 0 0");
            Check.same("kept " + i, Check.kept(x, i), "-1 -1 -1 -1 -1 -1 -1 -1 -1 -1");
        }
        Check.due("backend(0, 0)", x.backend(0, 0), MeshRouter.NONE);
        Check.due("target(0, 0, 0)", x.target(0, 0, 0), MeshRouter.NONE);
        Check.due("trace(0, 0)", x.trace(0, 0), MeshRouter.NONE);
        Check.due("printed(0)", x.printed(0), MeshRouter.NONE);
        Check.due("play(0)", x.play(0), MeshRouter.NONE);
        Check.due("restore()", x.restore(), MeshRouter.NONE);
        Check.due("match(0)", x.match(0), MeshRouter.BAD_TEXT);
        Check.due("setZoneLimit(1)", x.setZoneLimit(1), 70);
        constants();
        twoObjects();
        Check.end();
    }

    private static void constants() {
        Check.due("NONE", MeshRouter.NONE, -1);
        Check.due("BAD_ARGUMENT", MeshRouter.BAD_ARGUMENT, -2);
        Check.due("FULL", MeshRouter.FULL, -3);
        Check.due("NO_ROUTE", MeshRouter.NO_ROUTE, -4);
        Check.due("NO_BACKEND", MeshRouter.NO_BACKEND, -5);
        Check.due("FAILED", MeshRouter.FAILED, -6);
        Check.due("BAD_TEXT", MeshRouter.BAD_TEXT, -7);
    }

    private static void twoObjects() {
        MeshRouter used = new MeshRouter();
        used.addBackend(0, 0, 1);
        used.setZoneLimit(3);
        used.configure(0, 1, 2, 3, 4, 5);
        Check.rule(used, "/=0");
        used.save();
        used.mark();
        used.print(0);
        Check.same("a new object beside a used one",
                Check.all(new MeshRouter()), Check.all(new MeshRouter()));
        Check.same("its service", Check.service(new MeshRouter(), 0), "0 3 5 50 20 300 0 0 0 0 0 0 0");
        Check.due("its restore()", new MeshRouter().restore(), MeshRouter.NONE);
    }
}
