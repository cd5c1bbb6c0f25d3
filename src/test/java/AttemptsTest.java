/** Attempts, further attempts and tokens (promise 12). */
public final class AttemptsTest {
    public static void main(String[] args) {
        furtherAttempts();
        noBackendTwice();
        budget();
        justEnough();
        greatestBudget();
        ejectionComesFirst();
        Check.end();
    }

    private static MeshRouter failing(int backends, int ratio, String rule) {
        MeshRouter x = new MeshRouter();
        x.configure(0, 0, 9, 1, 0, ratio);
        for (int i = 0; i < backends; i++) {
            x.addBackend(0, 0, 1);
            x.setPattern(i, 0);
        }
        Check.rule(x, rule);
        return x;
    }

    private static void furtherAttempts() {
        MeshRouter x = failing(4, 100, "/=0*3");
        Check.due("request", Check.ask(x, "/", 0, 0), MeshRouter.FAILED);
        Check.same("trace", Check.trace(x), "0,0,1,0 1,0,1,0 2,0,1,0");
        Check.due("tokens", x.service(0, 5), 200);
        x.setPattern(2, 255);
        Check.due("request", Check.ask(x, "/", 0, 1), 2);
        Check.same("trace", Check.trace(x), "3,0,0,0 2,1,0,0");
        Check.due("tokens", x.service(0, 5), 200);
        Check.due("chosen", x.service(0, 8), 2);
        Check.due("answered", x.service(0, 9), 1);
        Check.due("attempts", x.count(7), 5);
        Check.due("failed", x.count(6), 1);
    }

    private static void noBackendTwice() {
        MeshRouter x = failing(2, 100, "/=0*4");
        Check.due("request", Check.ask(x, "/", 0, 0), MeshRouter.FAILED);
        Check.same("trace", Check.trace(x), "0,0,1,0 1,0,1,0");
        Check.due("tokens, none for a third attempt", x.service(0, 5), 300);
        x.setWeight(1, 0);
        Check.due("request", Check.ask(x, "/", 0, 0), MeshRouter.FAILED);
        Check.same("trace", Check.trace(x), "0,0,1,0");
        Check.due("tokens", x.service(0, 5), 400);
    }

    private static void budget() {
        MeshRouter x = failing(2, 0, "/=0*2");
        for (int tokens = 200; tokens >= 0; tokens -= 100) {
            Check.ask(x, "/", 0, 0);
            Check.due("attempts", x.count(12), 2);
            Check.due("tokens", x.service(0, 5), tokens);
        }
        Check.due("request", Check.ask(x, "/", 0, 0), MeshRouter.FAILED);
        Check.due("attempts without tokens", x.count(12), 1);
        Check.due("tokens", x.service(0, 5), 0);
    }

    private static void justEnough() {
        MeshRouter x = failing(2, 0, "/=0*2");
        Check.askOften(x, "/", 0, 3);
        x.configure(0, 0, 9, 1, 0, 99);
        Check.ask(x, "/", 0, 0);
        Check.due("attempts with 99 tokens", x.count(12), 1);
        Check.due("tokens", x.service(0, 5), 99);
        x.configure(0, 0, 9, 1, 0, 1);
        Check.ask(x, "/", 0, 0);
        Check.due("attempts with 100 tokens", x.count(12), 2);
        Check.due("tokens", x.service(0, 5), 0);
    }

    private static void greatestBudget() {
        MeshRouter x = failing(1, 90, "/=0,1");
        Check.askOften(x, "/", 0, 7);
        Check.due("tokens", x.service(0, 5), 930);
        Check.ask(x, "/", 0, 0);
        Check.due("tokens", x.service(0, 5), 1000);
        Check.ask(x, "/", 0, 0);
        Check.due("tokens", x.service(0, 5), 1000);
        Check.due("tokens of a service that was not chosen", x.service(1, 5), 300);
    }

    private static void ejectionComesFirst() {
        MeshRouter x = failing(2, 0, "/=0*2");
        x.configure(0, 0, 1, 3, 50, 0);
        Check.due("request", Check.ask(x, "/", 0, 0), MeshRouter.FAILED);
        Check.same("trace", Check.trace(x), "0,0,1,1 1,0,1,0");
        Check.due("request", Check.ask(x, "/", 0, 0), MeshRouter.FAILED);
        Check.same("trace, without the ejected one", Check.trace(x), "1,0,1,0");
        Check.due("tokens", x.service(0, 5), 200);
    }
}
