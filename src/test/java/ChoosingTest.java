/** Choosing by weights, among targets and among backends (promise 12). */
public final class ChoosingTest {
    public static void main(String[] args) {
        targets();
        withoutOneTarget();
        backends();
        backendsOfSeveralServices();
        Check.end();
    }

    private static void targets() {
        MeshRouter x = new MeshRouter();
        x.addBackend(3, 0, 1);
        x.addBackend(0, 0, 1);
        x.addBackend(2, 0, 1);
        Check.rule(x, "/=3:5,0:1,2:1");
        Check.same("answers", Check.askOften(x, "/", 0, 7), "0 0 1 0 2 0 0");
        Check.same("targets", Check.targets(x, 0), "3,5,0,5 0,1,0,1 2,1,0,1");
        Check.ask(x, "/", 0, 0);
        Check.same("targets", Check.targets(x, 0), "3,5,-2,6 0,1,1,1 2,1,1,1");
    }

    private static void withoutOneTarget() {
        MeshRouter x = new MeshRouter();
        x.addBackend(0, 0, 1);
        x.addBackend(1, 0, 1);
        Check.rule(x, "/=0:2,1,3:9");
        Check.due("request", Check.ask(x, "/", 0, 0), 0);
        Check.same("credits", Check.targets(x, 0), "0,2,-1,1 1,1,1,0 3,9,0,0");
        x.setWeight(0, 0);
        Check.due("request", Check.ask(x, "/", 0, 0), 1);
        Check.same("credits", Check.targets(x, 0), "0,2,-1,1 1,1,1,1 3,9,0,0");
        x.setWeight(0, 1);
        Check.due("request", Check.ask(x, "/", 0, 0), 1);
        Check.same("credits", Check.targets(x, 0), "0,2,1,1 1,1,-1,2 3,9,0,0");
        x.setWeight(0, 0);
        x.setWeight(1, 0);
        Check.due("request", Check.ask(x, "/", 0, 0), MeshRouter.NO_BACKEND);
        Check.same("credits", Check.targets(x, 0), "0,2,1,1 1,1,-1,2 3,9,0,0");
    }

    private static void backends() {
        MeshRouter x = new MeshRouter();
        x.addBackend(0, 0, 1);
        x.addBackend(0, 0, 0);
        x.addBackend(0, 0, 3);
        x.addBackend(0, 0, 2);
        Check.rule(x, "/=0");
        Check.same("answers", Check.askOften(x, "/", 0, 6), "2 3 0 2 3 2");
        Check.due("credit", x.backend(0, 4), 0);
        Check.due("credit", x.backend(2, 4), 0);
        Check.ask(x, "/", 0, 0);
        Check.due("credit", x.backend(0, 4), 1);
        Check.due("credit", x.backend(1, 4), 0);
        Check.due("credit", x.backend(2, 4), -3);
        Check.due("credit", x.backend(3, 4), 2);
    }

    private static void backendsOfSeveralServices() {
        MeshRouter x = new MeshRouter();
        x.addBackend(0, 0, 1);
        x.addBackend(1, 0, 1);
        x.addBackend(0, 0, 1);
        x.addBackend(1, 0, 1);
        Check.rule(x, "/a=0");
        Check.rule(x, "/b=1");
        Check.same("answers", Check.askOften(x, "/a", 0, 3), "0 2 0");
        Check.same("answers", Check.askOften(x, "/b", 0, 3), "1 3 1");
        Check.same("answers", Check.askOften(x, "/a", 0, 2), "2 0");
    }
}
