/** count. */
public final class Promise20Test {
    public static void main(String[] args) {
        MeshRouter x = new MeshRouter();
        for (int i = 0; i < 3; i++) {
            x.addBackend(0, 0, 1);
            x.setPattern(i, 0);
        }
        x.configure(0, 0, 1, 9, 67, 0);
        Check.rule(x, "/a=0~0*2");
        Check.rule(x, "/b=1");
        x.mark();
        Check.ask(x, "/a", 0, 0);
        Check.ask(x, "/a", 0, 0);
        for (int i = 0; i < 3; i++) {
            Check.ask(x, "/b", 0, 0);
        }
        for (int i = 0; i < 4; i++) {
            Check.ask(x, "/", 0, 0);
        }
        x.tick(5);
        Check.due("recorded", x.count(11), 14);
        x.setPattern(2, 255);
        Check.ask(x, "/a", 0, 0);
        Check.ask(x, "/a", 0, 0);
        Check.type(x, "/abc");
        int[] wants = {3, 2, 11, 2, 4, 3, 2, 5, 4, 2, 5, 0, 1, 4};
        for (int what = 0; what < wants.length; what++) {
            Check.due("count(" + what + ")", x.count(what), wants[what]);
        }
        Check.due("count(-1)", x.count(-1), MeshRouter.BAD_ARGUMENT);
        Check.due("count(14)", x.count(14), MeshRouter.BAD_ARGUMENT);
        Check.end();
    }
}
