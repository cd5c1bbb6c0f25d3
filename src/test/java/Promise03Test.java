/** setWeight. */
public final class Promise03Test {
    public static void main(String[] args) {
        ordinary();
        wrong();
        creditStays();
        ejectedWithoutWeight();
        Check.end();
    }

    private static void ordinary() {
        MeshRouter x = new MeshRouter();
        x.addBackend(0, 0, 3);
        Check.due("setWeight(0, 0)", x.setWeight(0, 0), 3);
        Check.due("service(0, 6)", x.service(0, 6), 0);
        Check.due("setWeight(0, 9)", x.setWeight(0, 9), 0);
        Check.due("service(0, 6)", x.service(0, 6), 1);
        Check.due("backend(0, 2)", x.backend(0, 2), 9);
        x.mark();
        Check.due("setWeight(0, 9)", x.setWeight(0, 9), 9);
        Check.due("the same weight ends the marking", x.play(0), MeshRouter.NONE);
    }

    private static void wrong() {
        MeshRouter x = new MeshRouter();
        x.addBackend(0, 0, 3);
        x.mark();
        Check.due("setWeight(-1, 1)", x.setWeight(-1, 1), MeshRouter.NONE);
        Check.due("setWeight(1, 1)", x.setWeight(1, 1), MeshRouter.NONE);
        Check.due("setWeight(1, 10)", x.setWeight(1, 10), MeshRouter.NONE);
        Check.due("setWeight(0, 10)", x.setWeight(0, 10), MeshRouter.BAD_ARGUMENT);
        Check.due("setWeight(0, -1)", x.setWeight(0, -1), MeshRouter.BAD_ARGUMENT);
        Check.due("backend(0, 2)", x.backend(0, 2), 3);
        Check.due("play(0), still marked", x.play(0), 0);
    }

    private static void creditStays() {
        MeshRouter x = new MeshRouter();
        x.addBackend(0, 0, 2);
        x.addBackend(0, 0, 1);
        Check.rule(x, "/=0");
        Check.due("request", Check.ask(x, "/", 0, 0), 0);
        Check.due("credit of 0", x.backend(0, 4), -1);
        Check.due("credit of 1", x.backend(1, 4), 1);
        x.setWeight(0, 9);
        x.setWeight(1, 0);
        Check.due("credit of 0", x.backend(0, 4), -1);
        Check.due("credit of 1", x.backend(1, 4), 1);
        Check.due("request", Check.ask(x, "/", 0, 0), 0);
        Check.due("credit of 0", x.backend(0, 4), -1);
        Check.due("credit of 1, not among them", x.backend(1, 4), 1);
    }

    private static void ejectedWithoutWeight() {
        MeshRouter x = new MeshRouter();
        x.addBackend(0, 0, 1);
        x.setPattern(0, 0);
        x.configure(0, 0, 1, 5, 100, 0);
        Check.rule(x, "/=0");
        Check.due("request", Check.ask(x, "/", 0, 0), MeshRouter.FAILED);
        Check.due("service(0, 7)", x.service(0, 7), 1);
        x.setWeight(0, 0);
        Check.due("service(0, 7)", x.service(0, 7), 0);
        Check.due("backend(0, 9)", x.backend(0, 9), 5);
        x.tick(2);
        x.setWeight(0, 1);
        Check.due("backend(0, 9)", x.backend(0, 9), 3);
        Check.due("service(0, 7)", x.service(0, 7), 1);
        Check.due("request", Check.ask(x, "/", 0, 0), MeshRouter.NO_BACKEND);
    }
}
