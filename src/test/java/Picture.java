import java.util.HashMap;
import java.util.Map;

/**
 * All that can be read of a router after some steps, and what it answers then. The steps are taken
 * again for every part of the picture, because an object has 512 calls only, and because some parts
 * change it.
 */
final class Picture {
    private static final Map<Steps, String> DRAWN = new HashMap<>();

    private final StringBuilder lines = new StringBuilder();

    private Picture() {
    }

    static String of(Steps steps) {
        return DRAWN.computeIfAbsent(steps, s -> {
            Picture picture = new Picture();
            picture.drawState("", s);
            picture.drawState("saved ", s.then("restore()"));
            picture.drawPassing(s);
            picture.drawTyped(s);
            picture.drawFuture(s);
            return picture.lines.toString();
        });
    }

    /** Only what is saved, and what is answered then. */
    static String ofState(Steps steps) {
        Picture picture = new Picture();
        picture.drawState("", steps);
        picture.drawFuture(steps);
        return picture.lines.toString();
    }

    private void put(String name, String value) {
        lines.append(name).append(": ").append(value).append('\n');
    }

    private void put(Router x, String when, String... calls) {
        for (String call : calls) {
            put(when + call, x.asks(call));
        }
    }

    private void drawState(String when, Steps steps) {
        Router x = steps.taken();
        int backends = x.call("count", 0);
        for (int i = 0; i < backends; i++) {
            put(x, when, "backend(" + i + ")");
        }
        x = steps.taken();
        for (int i = 0; i < 4; i++) {
            put(x, when, "service(" + i + ")", "kept(" + i + ")");
        }
        x = steps.taken();
        int rules = x.call("count", 1);
        for (int i = 0; i < rules; i++) {
            put(x, when, "targets(" + i + ")");
        }
        x = steps.taken();
        for (int i = 0; i < rules; i++) {
            put(x, when, "shown(" + i + ")");
        }
        x = steps.taken();
        for (int what = 0; what < 11; what++) {
            put(x, when, "count(" + what + ")");
        }
        put(x, when, "setZoneLimit(1)");
    }

    /** The trace, the printed text, the mark, and whether there is a snapshot. */
    private void drawPassing(Steps steps) {
        Router x = steps.taken();
        put(x, "", "count(11)", "count(12)", "count(13)", "trace()");
        put("printed", x.printed());
        for (int condition = 0; condition < 5; condition++) {
            put(x, "", "play(" + condition + ")", "answeredIf(" + condition + ")");
        }
        put(steps.taken(), "", "restore()", "count(0)", "trace()");
    }

    /** The typed text as a path, and as a rule, for which there may have to be made room. */
    private void drawTyped(Steps steps) {
        Router x = steps.taken();
        for (int header = 0; header < 10; header++) {
            put(x, "", "match(" + header + ")");
        }
        put(x, "", "foresee(0, 0)", "request(0, 0)", "trace()");
        x = steps.taken();
        put(x, "", "removeRule(0)", "addRule()");
        put(x, "as rule ", "shown(" + (x.call("count", 1) - 1) + ")");
    }

    private void drawFuture(Steps steps) {
        Router x = steps.taken();
        x.does("request(-1, -1)");
        for (int i = 0; i < 12; i++) {
            String path = i % 3 == 0 ? "'/ab', " : i % 3 == 1 ? "'/', " : "'/c', ";
            put(x, i + ", then ", "ask(" + path + (1 + i * 7 % 9) + ", " + i % 2 + ")");
        }
        put(x, "then ", "trace()", "tick(1)");
        for (int what = 0; what < 11; what++) {
            put(x, "then ", "count(" + what + ")");
        }
    }
}
