/** foresee. */
public final class Promise13Test {
    public static void main(String[] args) {
        errors();
        answers();
        Check.end();
    }

    private static void errors() {
        MeshRouter x = new MeshRouter();
        due(x, "/", 10, 0, MeshRouter.BAD_ARGUMENT);
        due(x, "/", -1, 0, MeshRouter.BAD_ARGUMENT);
        due(x, "/", 0, 3, MeshRouter.BAD_ARGUMENT);
        due(x, "/", 0, -1, MeshRouter.BAD_ARGUMENT);
        due(x, "", 10, 0, MeshRouter.BAD_ARGUMENT);
        due(x, "", 0, 0, MeshRouter.BAD_TEXT);
        due(x, "/?", 0, 0, MeshRouter.BAD_TEXT);
        due(x, "a", 0, 0, MeshRouter.BAD_TEXT);
    }

    private static void answers() {
        MeshRouter x = new MeshRouter();
        x.addBackend(0, 0, 1);
        x.addBackend(0, 0, 2);
        x.addBackend(0, 1, 1);
        x.setPattern(0, 0b10);
        x.setPattern(1, 0b1010);
        x.configure(0, 2, 2, 3, 60, 50);
        Check.rule(x, "/a=0~0*2");
        Check.rule(x, "/b=0,1");
        Check.rule(x, "/c=2");
        x.mark();
        due(x, "/d", 0, 0, MeshRouter.NO_ROUTE);
        due(x, "/c", 0, 0, MeshRouter.NO_BACKEND);
        int[] seen = new int[3];
        for (int i = 0; i < 45; i++) {
            int answer = foreseenAndAsked(x, i % 4 == 3 ? "/b" : "/a", i % 10, i % 3);
            seen[answer == MeshRouter.FAILED ? 0 : 1]++;
            if (i % 5 == 0) {
                x.tick(1);
            }
        }
        Check.due("some fail and some do not", seen[0] > 0 && seen[1] > 0 ? 1 : 0, 1);
        Check.due("recorded", x.count(11), 54);
    }

    private static int foreseenAndAsked(MeshRouter x, String path, int header, int zone) {
        Check.type(x, path);
        String before = Check.all(x);
        int foreseen = x.foresee(header, zone);
        Check.due("foresee once more", x.foresee(header, zone), foreseen);
        Check.same("nothing changed", Check.all(x), before);
        Check.due("request of " + path, x.request(header, zone), foreseen);
        return foreseen;
    }

    private static void due(MeshRouter x, String path, int header, int zone, int want) {
        Check.type(x, path);
        String before = Check.all(x);
        Check.due("foresee of " + path, x.foresee(header, zone), want);
        Check.same("nothing changed", Check.all(x), before);
        x.request(-1, 0);
    }
}
