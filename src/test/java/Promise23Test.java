/** mark: what it returns, what is recorded, and what ends it. */
public final class Promise23Test {
    public static void main(String[] args) {
        ordinary();
        limits();
        whatEndsIt();
        whatDoesNot();
        Check.end();
    }

    private static MeshRouter router() {
        MeshRouter x = new MeshRouter();
        x.addBackend(0, 0, 1);
        x.addBackend(1, 0, 1);
        Check.rule(x, "/a=0");
        Check.rule(x, "/b=2");
        x.save();
        return x;
    }

    private static void ordinary() {
        MeshRouter x = new MeshRouter();
        Check.due("mark()", x.mark(), 0);
        x = router();
        Check.ask(x, "/a", 0, 0);
        x.tick(2);
        Check.due("recorded", x.count(11), 0);
        Check.due("mark()", x.mark(), 2);
        Check.ask(x, "/a", 0, 0);
        Check.ask(x, "/b", 0, 0);
        Check.ask(x, "/c", 0, 0);
        x.tick(4);
        Check.due("recorded", x.count(11), 7);
        Check.due("answeredIf(0)", x.answeredIf(0), 1);
        Check.due("mark(), replacing", x.mark(), 2);
        Check.due("recorded", x.count(11), 0);
        Check.due("answeredIf(0)", x.answeredIf(0), 0);
    }

    private static void limits() {
        MeshRouter x = router();
        x.mark();
        for (int i = 1; i <= 60; i++) {
            Check.ask(x, "/a", 0, 0);
            Check.due("recorded", x.count(11), i);
        }
        Check.due("answeredIf(0)", x.answeredIf(0), 60);
        Check.ask(x, "/a", 0, 5);
        Check.ask(x, "", 0, 0);
        x.tick(0);
        Check.due("recorded, after errors", x.count(11), 60);
        Check.due("the 61st request", Check.ask(x, "/a", 0, 0), 0);
        Check.due("recorded", x.count(11), 0);
        Check.due("play(0)", x.play(0), MeshRouter.NONE);
        Check.due("answeredIf(0)", x.answeredIf(0), MeshRouter.NONE);
        Check.ask(x, "/a", 0, 0);
        Check.due("recorded", x.count(11), 0);
        x.mark();
        x.tick(50);
        Check.due("too many ticks", x.tick(11), 61);
        Check.due("none of them is recorded", x.count(11), 0);
        Check.due("play(0)", x.play(0), MeshRouter.NONE);
        x.mark();
        x.tick(50);
        x.tick(9);
        Check.ask(x, "/a", 0, 0);
        Check.due("recorded", x.count(11), 60);
        Check.due("answeredIf(0)", x.answeredIf(0), 1);
    }

    private static void whatEndsIt() {
        for (int call = 0; call < 9; call++) {
            MeshRouter x = router();
            x.mark();
            Check.ask(x, "/a", 0, 0);
            Check.type(x, "/=0");
            switch (call) {
                case 0: x.addBackend(3, 0, 0); break;
                case 1: x.setWeight(0, 1); break;
                case 2: x.setPattern(0, 255); break;
                case 3: x.configure(0, 0, 3, 5, 50, 20); break;
                case 4: x.setZoneLimit(70); break;
                case 5: x.addRule(); break;
                case 6: x.removeRule(1); break;
                case 7: x.moveRule(1, 1); break;
                default: x.restore(); break;
            }
            Check.due("recorded after call " + call, x.count(11), 0);
            Check.due("play(0) after call " + call, x.play(0), MeshRouter.NONE);
            Check.due("mark() after call " + call, x.mark(), call == 0 ? 3 : 2);
            Check.due("play(0) after call " + call, x.play(0), 0);
        }
    }

    private static void whatDoesNot() {
        MeshRouter x = router();
        MeshRouter unsaved = new MeshRouter();
        unsaved.mark();
        Check.due("restore()", unsaved.restore(), MeshRouter.NONE);
        Check.due("play(0)", unsaved.play(0), 0);
        x.mark();
        Check.ask(x, "/a", 0, 0);
        x.save();
        Check.type(x, "/a");
        x.match(0);
        x.foresee(0, 0);
        x.print(0);
        x.play(1);
        x.answeredIf(2);
        x.addBackend(4, 0, 0);
        x.setWeight(2, 0);
        x.setWeight(0, 10);
        x.setPattern(2, 0);
        x.setPattern(0, 256);
        x.configure(0, 3, 3, 5, 50, 20);
        x.setZoneLimit(0);
        x.append(128, 1);
        x.append('a', 40);
        Check.due("addRule()", x.addRule(), -102);
        x.removeRule(2);
        x.moveRule(2, 0);
        x.moveRule(0, 2);
        x.match(10);
        Check.ask(x, "b", 0, 0);
        x.tick(51);
        x.play(5);
        Check.due("recorded", x.count(11), 1);
        Check.due("answeredIf(0)", x.answeredIf(0), 1);
    }
}
