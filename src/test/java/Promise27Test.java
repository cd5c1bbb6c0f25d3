/** restore. */
public final class Promise27Test {
    public static void main(String[] args) {
        MeshRouter none = new MeshRouter();
        none.addBackend(0, 0, 1);
        Check.due("restore()", none.restore(), MeshRouter.NONE);
        Check.due("count(0)", none.count(0), 1);
        everything();
        goesOnAlike();
        Check.end();
    }

    /** A router with something in every place. */
    private static MeshRouter used() {
        MeshRouter x = new MeshRouter();
        x.addBackend(0, 0, 1);
        x.addBackend(0, 0, 3);
        x.addBackend(0, 1, 1);
        x.addBackend(1, 1, 2);
        x.addBackend(1, 2, 1);
        x.configure(0, 2, 1, 20, 50, 7);
        x.configure(1, 1, 2, 3, 100, 9);
        x.setPattern(1, 0);
        x.setPattern(3, 0b1010);
        x.setZoneLimit(99);
        Check.rule(x, "/a[1-8]=0:2,1:3~1*3");
        Check.rule(x, "/=1,2~0*2");
        change(x);
        return x;
    }

    private static void change(MeshRouter x) {
        for (int i = 0; i < 20; i++) {
            Check.ask(x, i % 3 == 2 ? "/b" : "/ab", 1 + i % 8, i * i % 3);
        }
        Check.ask(x, "/", 0, 0);
        Check.ask(x, "/ab", 0, 0);
        x.tick(2);
    }

    private static void everything() {
        MeshRouter x = used();
        x.mark();
        Check.type(x, "/xyz");
        String state = Check.state(x);
        String rules = Check.print(x, 0) + " " + Check.print(x, 1);
        Check.due("save()", x.save(), 5);
        x.request(0, 0);
        change(x);
        x.setWeight(0, 9);
        x.setPattern(2, 99);
        x.configure(0, 1, 9, 1, 1, 1);
        x.configure(3, 1, 9, 1, 1, 1);
        x.setZoneLimit(9);
        x.addBackend(3, 2, 1);
        x.moveRule(0, 1);
        x.removeRule(0);
        Check.rule(x, "/q=3");
        Check.rule(x, "/q=3,0");
        change(x);
        x.mark();
        x.setWeight(5, 0);
        Check.due("without a member", Check.ask(x, "/q", 0, 0), MeshRouter.NO_BACKEND);
        x.setWeight(5, 1);
        Check.due("with one", Check.ask(x, "/q", 0, 0), 5);
        Check.type(x, "/ab");
        x.print(2);
        Check.differs("much has changed", Check.state(x), state);
        Check.due("restore()", x.restore(), 5);
        Check.same("the state", Check.state(x), state);
        Check.due("the trace is empty", x.count(12), 0);
        Check.due("trace(0, 0)", x.trace(0, 0), MeshRouter.NONE);
        Check.due("the typed text stays", x.count(13), 3);
        Check.due("the printed text stays", x.printed(4), ',');
        Check.due("the marking has ended", x.play(0), MeshRouter.NONE);
        Check.same("the rules", Check.print(x, 0) + " " + Check.print(x, 1), rules);
        change(x);
        x.setZoneLimit(50);
        Check.due("restore(), the snapshot is kept", x.restore(), 5);
        Check.same("the state", Check.state(x), state);
        Check.due("zone limit", x.setZoneLimit(1), 99);
    }

    private static void goesOnAlike() {
        MeshRouter one = used();
        one.save();
        change(one);
        one.restore();
        MeshRouter other = used();
        change(one);
        change(other);
        Check.same("the state", Check.all(one), Check.all(other));
    }
}
