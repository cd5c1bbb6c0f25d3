import java.util.Random;

/** Runs of at most 512 calls, made by fixed seeds, on a router and on the model: all answers are alike. */
public final class RandomRunsTest {
    private static final int RUNS = 3000;
    private static final int MOST_CALLS = 512;
    private static final int CALLS_TO_LOOK = 150;
    private static final int CALLS_OF_A_STEP = 60;
    private static final int[] ODD = {-1, -2, 4, 8, 9, 10, 12, 13, 14, 41, 51, 100, 101, 128, 255, 256,
        1 << 20, Integer.MAX_VALUE, Integer.MIN_VALUE};

    private final Random random;
    private final MeshRouter x = new MeshRouter();
    private final Model model = new Model();
    private final int run;
    private final boolean settled;
    private int calls;
    private static final int[] spread = new int[8];

    private RandomRunsTest(int run) {
        this.run = run;
        this.random = new Random(run);
        this.settled = run % 3 != 0;
    }

    public static void main(String[] args) {
        for (int run = 0; run < RUNS; run++) {
            new RandomRunsTest(run).go();
        }
        System.out.println("answers >= 0, no route, no backend, failed; changed by condition 1 to 4: "
                + java.util.Arrays.toString(spread));
        for (int i = 0; i < spread.length; i++) {
            Check.holds("often enough, kind " + i, spread[i] > RUNS / 4);
        }
        Check.end();
    }

    private void go() {
        setUp();
        while (calls < MOST_CALLS - CALLS_TO_LOOK - CALLS_OF_A_STEP) {
            step();
        }
        lookAtAll(run % 3);
    }

    /** Looks at a part of all that there is, for which there are calls enough. */
    private void lookAtAll(int part) {
        for (int i = 0; i < 12 && part == 0; i++) {
            for (int what = 0; what < 12; what++) {
                due("backend", x.backend(i, what), model.backend(i, what), i, what);
            }
        }
        for (int i = 0; i < 4 && part == 1; i++) {
            for (int what = 0; what < 13; what++) {
                due("service", x.service(i, what), model.service(i, what), i, what);
                due("remembered", x.remembered(i, what), model.remembered(i, what), i, what);
            }
        }
        for (int i = 0; i < 8 && part == 2; i++) {
            for (int what = 0; what < 12; what++) {
                due("target", x.target(i, what / 4, what % 4), model.target(i, what / 4, what % 4), i, what);
            }
        }
        for (int what = 0; what < 14 && part > 0; what++) {
            due("count", x.count(what), model.count(what), what);
        }
        for (int condition = 0; condition < 5 && part > 0; condition++) {
            play(condition);
        }
    }

    private void due(String call, int got, int want, int... args) {
        calls++;
        if (calls > MOST_CALLS) {
            throw new IllegalStateException("more than 512 calls on one object");
        }
        Check.due("run " + run + ", call " + calls + ": " + call + java.util.Arrays.toString(args), got, want);
    }

    private int below(int bound) {
        return random.nextInt(bound);
    }

    private boolean chance(int percent) {
        return random.nextInt(100) < percent;
    }

    /** A number below the bound, or seldom an odd one. */
    private int some(int bound) {
        return chance(2) ? ODD[below(ODD.length)] : below(bound);
    }

    private void setUp() {
        int backends = 2 + below(11);
        int services = 1 + below(4);
        for (int i = 0; i < backends; i++) {
            addBackend(below(services), below(1 + below(3)), chance(85) ? 1 + below(chance(50) ? 3 : 9) : 0);
            if (chance(60)) {
                setPattern(i, chance(40) ? 0 : below(256));
            }
        }
        for (int i = 0; i < services; i++) {
            if (chance(80)) {
                configure(i);
            }
        }
        for (int i = 1 + below(4); i > 0; i--) {
            addRule();
        }
    }

    private void step() {
        int kind = below(settled ? 120 : 100);
        if (kind < 40 || kind >= 100) {
            request();
        } else if (kind < 46) {
            int count = chance(70) ? 1 + below(4) : some(52);
            due("tick", x.tick(count), model.tick(count), count);
        } else if (kind < 70) {
            look();
        } else if (kind < 74) {
            for (int condition = 0; condition < 5; condition++) {
                play(condition);
            }
            play(some(5));
        } else if (kind < 77) {
            text(path());
            match(some(10));
        } else if (kind < 79 || model.play(0) == MeshRouter.NONE) {
            due("mark", x.mark(), model.mark());
        } else if (!settled || chance(6)) {
            change();
        }
    }

    private void change() {
        switch (below(11)) {
            case 0: addBackend(some(4), some(3), some(10)); break;
            case 1: case 2: setWeight(some(12), some(10)); break;
            case 3: case 4: setPattern(some(12), chance(30) ? 0 : some(256)); break;
            case 5: configure(some(4)); break;
            case 6: setZoneLimit(); break;
            case 7: addRule(); break;
            case 8: moveOrRemove(); break;
            case 9: due("save", x.save(), model.save()); break;
            default: due("restore", x.restore(), model.restore()); break;
        }
    }

    private void addBackend(int service, int zone, int weight) {
        due("addBackend", x.addBackend(service, zone, weight),
                model.addBackend(service, zone, weight), service, zone, weight);
    }

    private void setWeight(int backend, int weight) {
        due("setWeight", x.setWeight(backend, weight), model.setWeight(backend, weight), backend, weight);
    }

    private void setPattern(int backend, int pattern) {
        due("setPattern", x.setPattern(backend, pattern), model.setPattern(backend, pattern), backend, pattern);
    }

    private void setZoneLimit() {
        int limit = chance(40) ? 100 : some(101);
        due("setZoneLimit", x.setZoneLimit(limit), model.setZoneLimit(limit), limit);
    }

    private void configure(int service) {
        int policy = some(3);
        int limit = chance(50) ? 1 + below(2) : some(10);
        int time = chance(50) ? 1 + below(4) : some(21);
        int share = chance(50) ? 50 + below(51) : some(101);
        int ratio = chance(50) ? 50 + below(51) : some(101);
        due("configure", x.configure(service, policy, limit, time, share, ratio),
                model.configure(service, policy, limit, time, share, ratio),
                service, policy, limit, time, share, ratio);
    }

    private void moveOrRemove() {
        int rule = some(5);
        int other = some(5);
        if (chance(60)) {
            due("moveRule", x.moveRule(rule, other), model.moveRule(rule, other), rule, other);
        } else {
            due("removeRule", x.removeRule(rule), model.removeRule(rule), rule);
        }
    }

    private void append(int code, int count) {
        due("append", x.append(code, count), model.append(code, count), code, count);
    }

    private void text(String text) {
        for (int i = 0; i < text.length(); i++) {
            append(text.charAt(i), 1);
        }
        if (chance(2)) {
            append(some(128), some(41));
        }
    }

    private String path() {
        StringBuilder path = new StringBuilder(chance(98) ? "/" : "a");
        while (chance(35)) {
            path.append("ab/".charAt(below(3)));
        }
        return path.append(chance(2) ? "!" : "").toString();
    }

    private void addRule() {
        StringBuilder rule = new StringBuilder("/");
        while (chance(25)) {
            rule.append("ab/".charAt(below(3)));
        }
        if (chance(20)) {
            int first = below(10);
            rule.append('[').append(first).append('-').append(first + below(10 - first)).append(']');
        }
        rule.append('=');
        int shift = below(4);
        for (int i = 0; i < 1 + below(3); i++) {
            rule.append(i == 0 ? "" : ",").append((i * 3 + shift) % 4);
            rule.append(chance(40) ? ":" + (1 + below(9)) : "");
        }
        rule.append(chance(40) ? "~" + below(4) : "").append(chance(70) ? "*" + (1 + below(4)) : "");
        if (chance(12)) {
            rule.setCharAt(below(rule.length()), "/a=,:~*[]-0123456789 \n".charAt(below(22)));
        }
        if (chance(5)) {
            rule.setLength(below(rule.length()));
        }
        if (chance(5)) {
            rule.append("/a=,:~*[]-0123456789 \n".charAt(below(22)));
        }
        text(rule.toString());
        due("addRule of " + rule, x.addRule(), model.addRule());
        int printed = some(8);
        due("print", x.print(printed), model.print(printed), printed);
        int index = some(20);
        due("printed", x.printed(index), model.printed(index), index);
    }

    private void match(int header) {
        due("match", x.match(header), model.match(header), header);
    }

    private void request() {
        text(path());
        int header = chance(50) ? below(2) : some(10);
        int zone = chance(60) ? 0 : some(3);
        if (chance(15)) {
            match(header);
        }
        if (chance(20)) {
            due("foresee", x.foresee(header, zone), model.foresee(header, zone), header, zone);
        }
        int answer = x.request(header, zone);
        due("request", answer, model.request(header, zone), header, zone);
        int kind = answer >= 0 ? 0 : -answer - 3;
        if (kind >= 0 && kind < 4) {
            spread[kind]++;
        }
        for (int i = 0; i < 3 && chance(30); i++) {
            int index = some(4);
            int what = some(4);
            due("trace", x.trace(index, what), model.trace(index, what), index, what);
        }
    }

    private void play(int condition) {
        int changed = x.play(condition);
        due("play", changed, model.play(condition), condition);
        due("answeredIf", x.answeredIf(condition), model.answeredIf(condition), condition);
        if (changed > 0 && condition > 0) {
            spread[condition + 3]++;
        }
    }

    private void look() {
        int a = some(12);
        int b = some(13);
        switch (below(6)) {
            case 0: due("backend", x.backend(a, b), model.backend(a, b), a, b); break;
            case 1: due("service", x.service(a % 4, b), model.service(a % 4, b), a % 4, b); break;
            case 2: due("remembered", x.remembered(a % 4, b), model.remembered(a % 4, b), a % 4, b); break;
            case 3: due("target", x.target(a % 4, b % 4, a / 3), model.target(a % 4, b % 4, a / 3), a, b); break;
            case 4: due("count", x.count(b + 1), model.count(b + 1), b + 1); break;
            default: due("print", x.print(a), model.print(a), a);
                due("printed", x.printed(b), model.printed(b), b);
        }
    }
}
