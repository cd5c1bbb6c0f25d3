/** Arguments at and beyond all bounds, in all combinations: every call is answered as by the model. */
public final class OddArgumentsTest {
    private static final int[] ODD = {Integer.MIN_VALUE, Integer.MIN_VALUE + 1, -101, -3, -2, -1, 0, 1, 2, 3,
        4, 5, 6, 7, 8, 9, 10, 11, 12, 13, 14, 19, 20, 21, 39, 40, 41, 49, 50, 51, 59, 60, 61, 99, 100, 101, 127, 128,
        255, 256, 1 << 16, 1 << 30, Integer.MAX_VALUE};
    private static final String[] ONE = {"match", "setZoneLimit", "removeRule", "tick", "count", "print",
        "printed", "play", "answeredIf"};
    private static final String[] TWO = {"setWeight", "setPattern", "append", "moveRule", "request", "foresee",
        "backend", "service", "remembered", "trace"};
    private static final String[] THREE = {"addBackend", "target"};

    private final Steps situation;
    private Router router;
    private Router model;

    private OddArgumentsTest(Steps situation) {
        this.situation = situation;
        begin();
    }

    public static void main(String[] args) {
        for (Steps situation : new Steps[] {Situations.NEW, Situations.USED, Situations.FULL,
            Situations.USED.then("type('/ab')"), Situations.FULL.then("type('/[0-5]=2')")}) {
            new OddArgumentsTest(situation).go();
        }
        Check.end();
    }

    private void begin() {
        router = situation.taken();
        model = situation.takenByModel();
    }

    private void go() {
        for (int a : ODD) {
            for (String name : ONE) {
                call(name, a);
            }
            for (int b : ODD) {
                for (String name : TWO) {
                    call(name, a, b);
                }
                for (int c : ODD) {
                    for (String name : THREE) {
                        call(name, a, b, c);
                    }
                    call("configure", a, b, c, 1, 1, 1);
                    call("configure", 1, 1, 1, a, b, c);
                }
            }
        }
    }

    private void call(String name, int... args) {
        if (router.callsLeft() == 0) {
            begin();
        }
        Check.due(name + java.util.Arrays.toString(args), router.call(name, args), model.call(name, args));
    }
}
