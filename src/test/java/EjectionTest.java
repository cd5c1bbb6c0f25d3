/** Ejection (promise 12). */
public final class EjectionTest {
    public static void main(String[] args) {
        failureRun();
        longerEachTime();
        share();
        shareOfAThird();
        shareCountsMembers();
        onlyBeyondTheShare();
        Check.end();
    }

    private static MeshRouter router(int backends, int limit, int time, int share) {
        MeshRouter x = new MeshRouter();
        for (int i = 0; i < backends; i++) {
            x.addBackend(0, 0, 1);
        }
        x.configure(0, 0, limit, time, share, 0);
        Check.rule(x, "/=0");
        return x;
    }

    private static void failureRun() {
        MeshRouter x = router(1, 3, 4, 100);
        x.setPattern(0, 0b00000100);
        Check.same("answers", Check.askOften(x, "/", 0, 2), "-6 -6");
        Check.due("failure run", x.backend(0, 7), 2);
        Check.due("request", Check.ask(x, "/", 0, 0), 0);
        Check.due("failure run", x.backend(0, 7), 0);
        Check.same("answers", Check.askOften(x, "/", 0, 2), "-6 -6");
        Check.same("trace", Check.trace(x), "0,0,1,0");
        Check.due("ejected for", x.backend(0, 9), 0);
        Check.due("request", Check.ask(x, "/", 0, 0), MeshRouter.FAILED);
        Check.same("trace", Check.trace(x), "0,0,1,1");
        Check.same("backend", Check.backend(x, 0), "0 0 1 4 0 6 1 0 1 4 0 0");
        Check.due("ejected members", x.service(0, 7), 1);
        Check.due("ejections", x.count(9), 1);
        Check.due("request", Check.ask(x, "/", 0, 0), MeshRouter.NO_BACKEND);
        Check.same("trace", Check.trace(x), "");
        Check.due("chosen", x.service(0, 8), 6);
        Check.same("targets", Check.targets(x, 0), "0,1,0,6");
    }

    private static void longerEachTime() {
        MeshRouter x = router(1, 1, 3, 100);
        x.setPattern(0, 0);
        for (int times = 1; times <= 4; times++) {
            Check.due("request", Check.ask(x, "/", 0, 0), MeshRouter.FAILED);
            Check.due("ejections", x.backend(0, 8), times);
            Check.due("ejected for", x.backend(0, 9), 3 * times);
            x.tick(3 * times - 1);
            Check.due("request", Check.ask(x, "/", 0, 0), MeshRouter.NO_BACKEND);
            x.tick(1);
            Check.due("ejected members", x.service(0, 7), 0);
        }
        Check.due("ejections", x.count(9), 4);
    }

    private static void share() {
        MeshRouter x = router(2, 1, 20, 49);
        x.setPattern(0, 0);
        x.setPattern(1, 0);
        Check.same("answers", Check.askOften(x, "/", 0, 2), "-6 -6");
        Check.due("none beyond the share", x.count(9), 0);
        Check.due("failure run", x.backend(0, 7), 1);
        x.configure(0, 0, 1, 20, 50, 0);
        Check.same("answers", Check.askOften(x, "/", 0, 3), "-6 -6 -6");
        Check.due("one within the share", x.count(9), 1);
        Check.due("failure run of the ejected", x.backend(0, 7), 0);
        Check.due("failure run of the other", x.backend(1, 7), 3);
        x.configure(0, 0, 9, 20, 100, 0);
        x.setPattern(1, 255);
        Check.ask(x, "/", 0, 0);
        Check.due("failure run", x.backend(1, 7), 0);
    }

    private static void shareOfAThird() {
        for (int share = 33; share <= 34; share++) {
            MeshRouter x = router(3, 1, 20, share);
            x.setPattern(0, 0);
            Check.due("request", Check.ask(x, "/", 0, 0), MeshRouter.FAILED);
            Check.due("ejections by " + share, x.count(9), share - 33);
        }
    }

    private static void shareCountsMembers() {
        MeshRouter x = router(4, 1, 20, 50);
        x.addBackend(1, 0, 1);
        for (int i = 0; i < 4; i++) {
            x.setPattern(i, 0);
        }
        Check.same("answers", Check.askOften(x, "/", 0, 4), "-6 -6 -6 -6");
        Check.due("ejected members", x.service(0, 7), 2);
        x.setWeight(0, 0);
        Check.due("ejected members", x.service(0, 7), 1);
        Check.ask(x, "/", 0, 0);
        Check.due("two of three are too many", x.service(0, 7), 1);
        x.configure(0, 0, 1, 20, 67, 0);
        Check.ask(x, "/", 0, 0);
        Check.due("but not for a share of 67", x.service(0, 7), 2);
    }

    /** A failure run beyond the limit ejects as soon as the share allows it. */
    private static void onlyBeyondTheShare() {
        MeshRouter x = router(2, 2, 1, 50);
        x.setPattern(0, 0);
        x.setPattern(1, 0);
        Check.askOften(x, "/", 0, 3);
        Check.due("0 is ejected", x.backend(0, 9), 1);
        Check.askOften(x, "/", 0, 2);
        Check.due("failure run", x.backend(1, 7), 3);
        Check.due("1 is not", x.backend(1, 9), 0);
        x.tick(1);
        x.setWeight(0, 1);
        x.setPattern(0, 255);
        Check.askOften(x, "/", 0, 2);
        Check.due("1 is ejected now", x.backend(1, 8), 1);
    }
}
