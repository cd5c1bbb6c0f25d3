/** As many of everything as there may be, and odd arguments everywhere: nothing is thrown. */
public final class FullHouseTest {
    private static final int[] ODD = {Integer.MIN_VALUE, -101, -3, -2, -1, 0, 1, 2, 3, 4, 5, 7, 8, 9,
        10, 11, 12, 13, 14, 39, 40, 41, 59, 60, 61, 100, 127, 128, 255, 256, Integer.MAX_VALUE};

    public static void main(String[] args) {
        full(new MeshRouter());
        oddArguments(new MeshRouter());
        MeshRouter x = new MeshRouter();
        full(x);
        oddArguments(x);
        Check.end();
    }

    private static void full(MeshRouter x) {
        for (int i = 0; i < 12; i++) {
            x.addBackend(i % 2 * 3, i % 3, 9);
            x.setPattern(i, i * 21);
        }
        for (int i = 0; i < 8; i++) {
            Check.due("addRule()", Check.rule(x, "/" + "a".repeat(20) + "[" + i + "-9]=0:9,3:9,1:9~3*4"), i);
        }
        for (int policy = 0; policy < 3; policy++) {
            x.configure(0, policy, 1, 20, 100, 100);
            x.configure(3, policy, 1, 20, 100, 100);
            x.mark();
            for (int i = 0; i < 60; i++) {
                Check.ask(x, "/" + "a".repeat(39), i % 10, i % 3);
                Check.due("recorded", x.count(11), i + 1);
                x.append('/', 1);
                x.append('a', 39);
                x.foresee(9, i % 3);
                x.match(i % 10);
                x.request(-1, -1);
            }
            for (int condition = 0; condition < 5; condition++) {
                Check.due("play", x.play(condition) >= 0 ? 1 : 0, 1);
                Check.due("answeredIf", x.answeredIf(condition) >= 0 ? 1 : 0, 1);
            }
            Check.due("play(0)", x.play(0), 0);
            x.tick(50);
            Check.due("recorded", x.count(11), 0);
        }
        Check.all(x);
        Check.due("moveRule(0, 7)", x.moveRule(0, 7), 7);
        Check.due("moveRule(7, 0)", x.moveRule(7, 0), 7);
        for (int i = 7; i >= 0; i--) {
            Check.due("removeRule", x.removeRule(i % 3 == 0 ? i : 0), i);
        }
    }

    private static void oddArguments(MeshRouter x) {
        for (int a : ODD) {
            x.append(a, 1);
            x.append('/', a);
            x.match(a);
            x.setZoneLimit(a);
            x.removeRule(a);
            x.tick(a);
            x.count(a);
            x.print(a);
            x.printed(a);
            x.play(a);
            x.answeredIf(a);
            for (int b : ODD) {
                x.foresee(a, b);
                x.request(a, b);
                x.setWeight(a, b);
                x.setPattern(a, b);
                x.moveRule(a, b);
                x.backend(a, b);
                x.service(a, b);
                x.remembered(a, b);
                x.trace(a, b);
                x.append(a, b);
                x.addRule();
                for (int c : ODD) {
                    x.addBackend(a, b, c);
                    x.target(a, b, c);
                    x.configure(a, b, c, 1, 1, 1);
                    x.configure(1, 1, 1, a, b, c);
                }
            }
        }
        x.mark();
        x.save();
        x.restore();
        Check.all(x);
    }
}
