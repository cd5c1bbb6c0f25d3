/** Shadows (promise 12). */
public final class ShadowTest {
    public static void main(String[] args) {
        fewestFirst();
        whateverTheAnswer();
        ejectedOnes();
        Check.end();
    }

    private static void fewestFirst() {
        MeshRouter x = new MeshRouter();
        x.addBackend(0, 0, 1);
        x.addBackend(1, 0, 1);
        x.addBackend(1, 1, 9);
        x.addBackend(1, 2, 0);
        x.setPattern(1, 0b10);
        Check.rule(x, "/=0~1");
        Check.askOften(x, "/", 0, 5);
        Check.due("shadow attempts of 1", x.backend(1, 10), 3);
        Check.due("shadow attempts of 2", x.backend(2, 10), 2);
        Check.due("shadow attempts of 3, no member", x.backend(3, 10), 0);
        Check.due("those of 1 that succeeded", x.backend(1, 11), 1);
        Check.due("those of 2 that succeeded", x.backend(2, 11), 2);
        Check.due("shadow attempts", x.count(8), 5);
        Check.due("attempts", x.count(7), 5);
        Check.same("backend 1", Check.backend(x, 1), "1 0 1 2 0 0 0 0 0 0 3 1");
        Check.same("service 1", Check.service(x, 1), "0 3 5 50 20 300 2 0 0 0 0 0 0");
        Check.same("trace", Check.trace(x), "0,1,1,0");
        x.setWeight(3, 1);
        Check.askOften(x, "/", 0, 2);
        Check.due("shadow attempts of 3", x.backend(3, 10), 2);
        x.setWeight(1, 0);
        x.setWeight(2, 0);
        x.setWeight(3, 0);
        Check.ask(x, "/", 0, 0);
        Check.due("shadow attempts, no member", x.count(8), 7);
    }

    private static void whateverTheAnswer() {
        MeshRouter x = new MeshRouter();
        x.addBackend(2, 0, 1);
        x.addBackend(0, 0, 1);
        x.setPattern(1, 0);
        Check.rule(x, "/a=0~2");
        Check.rule(x, "/b=1~2");
        Check.rule(x, "/c=2~2");
        Check.due("request", Check.ask(x, "/a", 0, 0), MeshRouter.FAILED);
        Check.due("shadow attempts", x.count(8), 1);
        Check.due("request", Check.ask(x, "/b", 0, 0), MeshRouter.NO_BACKEND);
        Check.due("shadow attempts", x.count(8), 2);
        Check.due("request", Check.ask(x, "/d", 0, 0), MeshRouter.NO_ROUTE);
        Check.due("shadow attempts", x.count(8), 2);
        Check.due("request", Check.ask(x, "/c", 0, 0), 0);
        Check.same("its own shadow", Check.backend(x, 0), "2 0 1 255 0 1 1 0 0 0 3 3");
    }

    private static void ejectedOnes() {
        MeshRouter x = new MeshRouter();
        x.addBackend(0, 0, 1);
        x.configure(0, 0, 1, 9, 100, 0);
        x.setPattern(0, 0b11110000);
        Check.rule(x, "/=0~0*2");
        Check.due("request", Check.ask(x, "/", 0, 0), MeshRouter.FAILED);
        Check.due("request", Check.ask(x, "/", 0, 0), MeshRouter.NO_BACKEND);
        Check.same("backend", Check.backend(x, 0), "0 0 1 240 0 1 0 0 1 9 2 0");
        Check.askOften(x, "/", 0, 7);
        Check.same("backend", Check.backend(x, 0), "0 0 1 240 0 1 0 0 1 9 9 4");
    }
}
