import java.lang.reflect.InvocationTargetException;
import java.lang.reflect.Method;
import java.lang.reflect.Modifier;
import java.util.ArrayList;
import java.util.HashMap;
import java.util.List;
import java.util.Map;
import java.util.regex.Matcher;
import java.util.regex.Pattern;

/**
 * A MeshRouter that takes calls as they are written, "setWeight(0, 9) -> 3", and compares the
 * answers. It counts them: what an object answers after 512 calls is free, so no test may ask it.
 *
 * <p>Beside the methods of the face there are these, made of them:
 * <ul>
 * <li>type('text'), rule('text'), ask('path', header, zone): append the text, and call addRule or
 *     request then; matched('path', header) and foreseen('path', header, zone) empty it afterwards
 * <li>backend(i), service(i), kept(i), targets(i), trace(), shown(i), counts(): all of one thing, as
 *     a list; targets and attempts of the trace stand with commas
 * </ul>
 * "call * 3 -> 0 1 0" makes a call three times.
 */
final class Router {
    private static final int MOST_CALLS = 512;
    private static final Pattern CALL = Pattern.compile(
            "(\\w+)\\((?:'([^']*)')?,? ?([-\\w, ]*)\\)(?: \\* (\\d+))?(?: -> ?(.*))?");
    private static final Map<String, Call> PARSED = new HashMap<>();
    private static final Map<String, Method> FACE = methods(MeshRouter.class);
    private static final Map<String, Method> FACE_OF_MODEL = methods(Model.class);

    private final Object x;
    private final Map<String, Method> face;
    private int calls;

    Router() {
        x = new MeshRouter();
        face = FACE;
    }

    /** A model that takes calls as they are written. */
    Router(Model model) {
        x = model;
        face = FACE_OF_MODEL;
    }

    private static Map<String, Method> methods(Class<?> type) {
        Map<String, Method> methods = new HashMap<>();
        for (Method method : type.getDeclaredMethods()) {
            if (!Modifier.isPrivate(method.getModifiers())) {
                methods.put(method.getName() + "/" + method.getParameterCount(), method);
            }
        }
        return methods;
    }

    /** How many calls are left before the answers are free. */
    int callsLeft() {
        return MOST_CALLS - calls;
    }

    private record Call(String name, String text, int[] args, int times, String due) {
    }

    /** Makes calls, and compares the answers of those that tell what is due. */
    Router does(String... written) {
        for (String one : written) {
            Call call = PARSED.computeIfAbsent(one, Router::parse);
            List<String> answers = new ArrayList<>();
            for (int i = 0; i < call.times; i++) {
                answers.add(make(call));
            }
            if (call.due != null) {
                Check.due(one.replaceAll(" -> ?.*", ""), String.join(" ", answers), call.due);
            }
        }
        return this;
    }

    /** Makes one call and returns its answer. */
    String asks(String written) {
        return make(PARSED.computeIfAbsent(written, Router::parse));
    }

    private static Call parse(String written) {
        Matcher matcher = CALL.matcher(written);
        if (!matcher.matches()) {
            throw new IllegalArgumentException("no call: " + written);
        }
        List<Integer> args = new ArrayList<>();
        for (String arg : matcher.group(3).split("[, ]+")) {
            if (!arg.isEmpty()) {
                args.add(arg.equals("min") ? Integer.MIN_VALUE
                        : arg.equals("max") ? Integer.MAX_VALUE : Integer.parseInt(arg));
            }
        }
        return new Call(matcher.group(1), matcher.group(2),
                args.stream().mapToInt(Integer::intValue).toArray(),
                matcher.group(4) == null ? 1 : Integer.parseInt(matcher.group(4)), matcher.group(5));
    }

    private String make(Call call) {
        if (call.text == null && face.containsKey(call.name + "/" + call.args.length)) {
            return Integer.toString(call(call.name, call.args));
        }
        return call.text == null ? list(call.name, call.args) : typed(call);
    }

    /** Calls a method of the face. */
    int call(String name, int... args) {
        calls++;
        if (calls > MOST_CALLS) {
            throw new IllegalStateException("more than 512 calls on one object");
        }
        Object[] boxed = new Object[args.length];
        for (int i = 0; i < args.length; i++) {
            boxed[i] = args[i];
        }
        try {
            return (Integer) face.get(name + "/" + args.length).invoke(x, boxed);
        } catch (IllegalAccessException | InvocationTargetException e) {
            throw new IllegalStateException(name + " was not answered", e);
        }
    }

    private String typed(Call call) {
        int length = type(call.text);
        int answer = length;
        switch (call.name) {
            case "type": break;
            case "rule": answer = call("addRule"); break;
            case "ask": answer = call("request", call.args); break;
            case "matched": answer = call("match", call.args); clear(); break;
            case "foreseen": answer = call("foresee", call.args); clear(); break;
            default: throw new IllegalArgumentException("no call: " + call.name);
        }
        return Integer.toString(answer);
    }

    /** Appends a text, and returns the length of all that is typed then, or the last error. */
    private int type(String text) {
        int length = 0;
        for (int i = 0; i < text.length(); ) {
            int end = i + 1;
            while (end < text.length() && text.charAt(end) == text.charAt(i)) {
                end++;
            }
            length = call("append", text.charAt(i), end - i);
            i = end;
        }
        return length;
    }

    private void clear() {
        call("request", -1, -1);
    }

    private String list(String name, int... args) {
        switch (name + "/" + args.length) {
            case "backend/1": return properties(12, "backend", args);
            case "service/1": return properties(13, "service", args);
            case "kept/1": return properties(10, "remembered", args);
            case "counts/0": return properties(14, "count");
            case "targets/1": return rows("target", args);
            case "trace/0": return rows("trace");
            case "shown/1": call("print", args); return printed();
            default: throw new IllegalArgumentException("no call: " + name);
        }
    }

    private String properties(int number, String name, int... args) {
        StringBuilder all = new StringBuilder();
        for (int what = 0; what < number; what++) {
            all.append(what == 0 ? "" : " ").append(call(name, and(args, what)));
        }
        return all.toString();
    }

    /** The four properties of each target of a rule, or attempt of the trace. */
    private String rows(String name, int... args) {
        StringBuilder all = new StringBuilder();
        for (int row = 0; call(name, and(args, row, 0)) != MeshRouter.NONE; row++) {
            all.append(row == 0 ? "" : " ");
            for (int what = 0; what < 4; what++) {
                all.append(what == 0 ? "" : ",").append(call(name, and(args, row, what)));
            }
        }
        return all.toString();
    }

    private static int[] and(int[] args, int... more) {
        int[] all = java.util.Arrays.copyOf(args, args.length + more.length);
        System.arraycopy(more, 0, all, args.length, more.length);
        return all;
    }

    /** The printed text. */
    String printed() {
        StringBuilder text = new StringBuilder();
        for (int i = 0; i <= 40; i++) {
            int sign = call("printed", i);
            if (sign == MeshRouter.NONE) {
                break;
            }
            text.append((char) sign);
        }
        return text.toString();
    }
}
