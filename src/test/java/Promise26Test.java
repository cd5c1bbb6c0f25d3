/** save. */
public final class Promise26Test {
    public static void main(String[] args) {
        MeshRouter x = new MeshRouter();
        Check.due("save()", x.save(), 0);
        x.addBackend(0, 0, 1);
        x.addBackend(1, 0, 1);
        Check.rule(x, "/=0");
        Check.ask(x, "/", 0, 0);
        x.mark();
        Check.ask(x, "/", 0, 0);
        Check.type(x, "/a");
        String before = Check.all(x);
        Check.due("save()", x.save(), 2);
        Check.same("nothing changed", Check.all(x), before);
        Check.due("the mark is still there", x.answeredIf(0), 1);
        x.addBackend(2, 0, 1);
        Check.due("restore(), of the later snapshot", x.restore(), 2);
        x.setWeight(0, 7);
        Check.due("save()", x.save(), 2);
        x.setWeight(0, 8);
        x.restore();
        Check.due("backend(0, 2)", x.backend(0, 2), 7);
        Check.end();
    }
}
