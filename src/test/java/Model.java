import java.util.ArrayList;
import java.util.Arrays;
import java.util.List;
import java.util.function.Predicate;
import java.util.regex.Matcher;
import java.util.regex.Pattern;

/**
 * The document once more, as another program: it copies whole states, keeps the paths of recorded
 * requests, looks at the conditions where they matter, and reads rules by a regular expression.
 */
final class Model {
    private static final Pattern RULE = Pattern.compile("(?<prefix>/[a-z/]*)"
            + "(?<range>\\[(?:0-[0-9]|1-[1-9]|2-[2-9]|3-[3-9]|4-[4-9]|5-[5-9]|6-[6-9]|7-[7-9]|8-[89]|9-9)\\])?"
            + "=(?<a>[0-3])(?<aw>:[1-9])?"
            + "(?:,(?!\\k<a>)(?<b>[0-3])(?<bw>:[1-9])?"
            + "(?:,(?!\\k<a>|\\k<b>)(?<c>[0-3])(?<cw>:[1-9])?)?)?"
            + "(?<shadow>~[0-3])?(?<most>\\*[1-4])?");

    static final class B {
        int service, zone, weight, pattern = 255, credit, attempts, good, run, ejections, out;
        int shadowAttempts, shadowGood;
    }

    static final class V {
        int policy, limit = 3, time = 5, share = 50, ratio = 20, tokens = 300, chosen, answered;
        int[] spill = new int[3];
        int[] kept = new int[10];
    }

    static final class T {
        int service, weight, credit, chosen;
    }

    static final class R {
        String prefix;
        int low, high = 9, most = 1, shadow = -1;
        List<T> targets = new ArrayList<>();
    }

    static final class State {
        List<B> backends = new ArrayList<>();
        List<V> services = new ArrayList<>();
        List<R> rules = new ArrayList<>();
        int zoneLimit = 70;
        int time;
        int[] counts = new int[10];

        State copy() {
            State c = new State();
            for (B b : backends) {
                B n = new B();
                n.service = b.service; n.zone = b.zone; n.weight = b.weight; n.pattern = b.pattern;
                n.credit = b.credit; n.attempts = b.attempts; n.good = b.good; n.run = b.run;
                n.ejections = b.ejections; n.out = b.out;
                n.shadowAttempts = b.shadowAttempts; n.shadowGood = b.shadowGood;
                c.backends.add(n);
            }
            for (V v : services) {
                V n = new V();
                n.policy = v.policy; n.limit = v.limit; n.time = v.time; n.share = v.share;
                n.ratio = v.ratio; n.tokens = v.tokens; n.chosen = v.chosen; n.answered = v.answered;
                n.spill = v.spill.clone(); n.kept = v.kept.clone();
                c.services.add(n);
            }
            for (R r : rules) {
                R n = new R();
                n.prefix = r.prefix; n.low = r.low; n.high = r.high; n.most = r.most; n.shadow = r.shadow;
                for (T t : r.targets) {
                    T m = new T();
                    m.service = t.service; m.weight = t.weight; m.credit = t.credit; m.chosen = t.chosen;
                    n.targets.add(m);
                }
                c.rules.add(n);
            }
            c.zoneLimit = zoneLimit; c.time = time; c.counts = counts.clone();
            return c;
        }
    }

    record Step(String path, int header, int zone, int answer) { }

    private State s = new State();
    private State marked;
    private State saved;
    private List<Step> steps = new ArrayList<>();
    private String text = "";
    private String printed = "";
    private List<int[]> trace = new ArrayList<>();

    Model() {
        for (int i = 0; i < 4; i++) {
            V v = new V();
            Arrays.fill(v.kept, -1);
            s.services.add(v);
        }
    }

    private static boolean in(int value, int low, int high) {
        return low <= value && value <= high;
    }

    private void unmark() {
        marked = null;
        steps = new ArrayList<>();
    }

    int addBackend(int service, int zone, int weight) {
        if (!in(service, 0, 3) || !in(zone, 0, 2) || !in(weight, 0, 9)) return -2;
        if (s.backends.size() == 12) return -3;
        unmark();
        B b = new B();
        b.service = service; b.zone = zone; b.weight = weight;
        s.backends.add(b);
        return s.backends.size() - 1;
    }

    int setWeight(int backend, int weight) {
        if (!in(backend, 0, s.backends.size() - 1)) return -1;
        if (!in(weight, 0, 9)) return -2;
        unmark();
        int old = s.backends.get(backend).weight;
        s.backends.get(backend).weight = weight;
        return old;
    }

    int setPattern(int backend, int pattern) {
        if (!in(backend, 0, s.backends.size() - 1)) return -1;
        if (!in(pattern, 0, 255)) return -2;
        unmark();
        int old = s.backends.get(backend).pattern;
        s.backends.get(backend).pattern = pattern;
        return old;
    }

    int configure(int service, int policy, int limit, int time, int share, int ratio) {
        if (!in(service, 0, 3) || !in(policy, 0, 2) || !in(limit, 1, 9) || !in(time, 1, 20)
                || !in(share, 0, 100) || !in(ratio, 0, 100)) return -2;
        unmark();
        V v = s.services.get(service);
        int old = v.policy;
        v.policy = policy; v.limit = limit; v.time = time; v.share = share; v.ratio = ratio;
        return old;
    }

    int setZoneLimit(int limit) {
        if (!in(limit, 1, 100)) return -2;
        unmark();
        int old = s.zoneLimit;
        s.zoneLimit = limit;
        return old;
    }

    int append(int code, int count) {
        if (!in(code, 0, 127) || !in(count, 1, 40)) return -2;
        if (text.length() + count > 40) return -3;
        text += String.valueOf((char) code).repeat(count);
        return text.length();
    }

    /** The length of the longest beginning of the text that some rule begins with. */
    private static int errorOffset(String text) {
        for (int length = 1; length <= text.length(); length++) {
            Matcher m = RULE.matcher(text.substring(0, length));
            if (!m.matches() && !m.hitEnd()) return length - 1;
        }
        return text.length();
    }

    int addRule() {
        Matcher m = RULE.matcher(text);
        int error = m.matches() ? -1 : errorOffset(text);
        text = "";
        if (error >= 0) return -100 - error;
        if (s.rules.size() == 8) return -3;
        unmark();
        R r = new R();
        r.prefix = m.group("prefix");
        if (m.group("range") != null) {
            r.low = m.group("range").charAt(1) - '0';
            r.high = m.group("range").charAt(3) - '0';
        }
        for (String name : List.of("a", "b", "c")) {
            if (m.group(name) != null) {
                T t = new T();
                t.service = Integer.parseInt(m.group(name));
                t.weight = m.group(name + "w") == null ? 1 : Integer.parseInt(m.group(name + "w").substring(1));
                r.targets.add(t);
            }
        }
        if (m.group("shadow") != null) r.shadow = Integer.parseInt(m.group("shadow").substring(1));
        if (m.group("most") != null) r.most = Integer.parseInt(m.group("most").substring(1));
        s.rules.add(r);
        return s.rules.size() - 1;
    }

    int removeRule(int rule) {
        if (!in(rule, 0, s.rules.size() - 1)) return -1;
        unmark();
        s.rules.remove(rule);
        return s.rules.size();
    }

    int moveRule(int rule, int position) {
        if (!in(rule, 0, s.rules.size() - 1)) return -1;
        if (!in(position, 0, s.rules.size() - 1)) return -2;
        unmark();
        s.rules.add(position, s.rules.remove(rule));
        return Math.abs(rule - position);
    }

    private static R find(State s, String path, int header) {
        return s.rules.stream().filter(r -> path.startsWith(r.prefix) && in(header, r.low, r.high))
                .findFirst().orElse(null);
    }

    private int error(int header, int zone) {
        if (!in(header, 0, 9) || !in(zone, 0, 2)) return -2;
        return text.matches("/[a-z/]*") ? 0 : -7;
    }

    int match(int header) {
        int error = error(header, 0);
        return error != 0 ? error : s.rules.indexOf(find(s, text, header));
    }

    int request(int header, int zone) {
        int error = error(header, zone);
        String path = text;
        text = "";
        if (error != 0) return error;
        trace = new ArrayList<>();
        int answer = answer(s, path, header, zone, -1, trace);
        if (marked != null) {
            steps.add(new Step(path, header, zone, answer));
            if (steps.size() > 60) unmark();
        }
        return answer;
    }

    int foresee(int header, int zone) {
        int error = error(header, zone);
        return error != 0 ? error : answer(s.copy(), text, header, zone, -1, new ArrayList<>());
    }

    private static void tick(State s) {
        s.time++;
        for (B b : s.backends) b.out = Math.max(0, b.out - 1);
    }

    int tick(int count) {
        if (!in(count, 1, 50)) return -2;
        for (int i = 0; i < count; i++) {
            tick(s);
            if (marked != null) steps.add(new Step(null, 0, 0, 0));
        }
        if (steps.size() > 60) unmark();
        return s.time;
    }

    private static int answer(State s, String path, int header, int zone, int condition, List<int[]> trace) {
        R r = find(s, path, header);
        int answer = r == null ? -4 : serve(s, r, header, zone, condition, trace);
        if (r != null && r.shadow >= 0 && condition != 0) mirror(s, r.shadow);
        s.counts[2]++;
        s.counts[answer >= 0 ? 3 : -answer]++;
        return answer;
    }

    private static List<B> where(State s, Predicate<B> test) {
        List<B> all = new ArrayList<>(s.backends);
        all.removeIf(test.negate());
        return all;
    }

    private static int serve(State s, R r, int header, int zone, int condition, List<int[]> trace) {
        T chosen = null;
        int sum = 0;
        for (T t : r.targets) {
            if (!where(s, b -> b.service == t.service && b.weight > 0 && b.out == 0).isEmpty()) {
                t.credit += t.weight;
                sum += t.weight;
                if (chosen == null || t.credit > chosen.credit) chosen = t;
            }
        }
        if (chosen == null) return -5;
        chosen.credit -= sum;
        chosen.chosen++;
        int number = chosen.service;
        V v = s.services.get(number);
        v.chosen++;
        v.tokens = Math.min(1000, v.tokens + v.ratio);
        List<B> tried = new ArrayList<>();
        while (true) {
            List<B> candidates = where(s, b -> b.service == number && b.weight > 0 && b.out == 0 && !tried.contains(b));
            B b = pick(s, v, candidates, number, header, zone, condition);
            tried.add(b);
            if (attempt(s, v, b, zone, condition, trace)) {
                v.answered++;
                return s.backends.indexOf(b);
            }
            boolean more = !where(s, o -> o.service == number && o.weight > 0 && o.out == 0 && !tried.contains(o)).isEmpty();
            if (tried.size() >= (condition == 1 ? 1 : r.most) || v.tokens < 100 || !more) return -6;
            v.tokens -= 100;
        }
    }

    private static B byWeights(List<B> candidates) {
        B chosen = null;
        int sum = 0;
        for (B b : candidates) {
            b.credit += b.weight;
            sum += b.weight;
        }
        for (B b : candidates) {
            if (chosen == null || b.credit > chosen.credit) chosen = b;
        }
        chosen.credit -= sum;
        return chosen;
    }

    private static B pick(State s, V v, List<B> candidates, int number, int header, int zone, int condition) {
        List<B> near = new ArrayList<>(candidates);
        near.removeIf(b -> b.zone != zone);
        List<B> others = new ArrayList<>(candidates);
        others.removeAll(near);
        List<B> left = candidates;
        if (!near.isEmpty() && !others.isEmpty()) {
            int n = near.stream().mapToInt(b -> b.weight).sum();
            int m = where(s, b -> b.service == number && b.zone == zone).stream().mapToInt(b -> b.weight).sum();
            int limit = condition == 4 ? 1 : s.zoneLimit;
            left = near;
            if (100 * n < limit * m) {
                v.spill[zone] += 10000 * n / (limit * m);
                if (v.spill[zone] >= 100) {
                    v.spill[zone] -= 100;
                } else {
                    left = others;
                }
            }
        }
        int policy = condition == 3 ? 0 : v.policy;
        if (policy == 1) {
            B best = left.get(0);
            for (B b : left) {
                if ((long) b.attempts * best.weight < (long) best.attempts * b.weight) best = b;
            }
            return best;
        }
        if (policy == 2) {
            int kept = v.kept[header];
            if (kept >= 0 && left.contains(s.backends.get(kept))) return s.backends.get(kept);
            B b = byWeights(left);
            v.kept[header] = s.backends.indexOf(b);
            return b;
        }
        return byWeights(left);
    }

    private static boolean attempt(State s, V v, B b, int zone, int condition, List<int[]> trace) {
        boolean good = (b.pattern & 1 << b.attempts % 8) != 0;
        boolean ejected = false;
        b.attempts++;
        s.counts[7]++;
        if (good) {
            b.good++;
            b.run = 0;
        } else {
            b.run++;
            int members = where(s, o -> o.service == b.service && o.weight > 0).size();
            int out = where(s, o -> o.service == b.service && o.weight > 0 && o.out > 0).size();
            if (condition != 2 && b.run >= v.limit && (out + 1) * 100 <= v.share * members) {
                ejected = true;
                b.run = 0;
                b.ejections++;
                b.out = v.time * b.ejections;
                s.counts[9]++;
            }
        }
        trace.add(new int[] {s.backends.indexOf(b), good ? 1 : 0, b.zone == zone ? 1 : 0, ejected ? 1 : 0});
        return good;
    }

    private static void mirror(State s, int service) {
        B least = null;
        for (B b : where(s, o -> o.service == service && o.weight > 0)) {
            if (least == null || b.shadowAttempts < least.shadowAttempts) least = b;
        }
        if (least != null) {
            if ((least.pattern & 1 << least.shadowAttempts % 8) != 0) least.shadowGood++;
            least.shadowAttempts++;
            s.counts[8]++;
        }
    }

    int backend(int backend, int what) {
        if (!in(backend, 0, s.backends.size() - 1)) return -1;
        if (!in(what, 0, 11)) return -2;
        B b = s.backends.get(backend);
        return new int[] {b.service, b.zone, b.weight, b.pattern, b.credit, b.attempts, b.good, b.run,
            b.ejections, b.out, b.shadowAttempts, b.shadowGood}[what];
    }

    int service(int service, int what) {
        if (!in(service, 0, 3) || !in(what, 0, 12)) return -2;
        V v = s.services.get(service);
        List<B> members = where(s, b -> b.service == service && b.weight > 0);
        int out = (int) members.stream().filter(b -> b.out > 0).count();
        return new int[] {v.policy, v.limit, v.time, v.share, v.ratio, v.tokens, members.size(), out,
            v.chosen, v.answered, v.spill[0], v.spill[1], v.spill[2]}[what];
    }

    int remembered(int service, int header) {
        return in(service, 0, 3) && in(header, 0, 9) ? s.services.get(service).kept[header] : -2;
    }

    int target(int rule, int target, int what) {
        if (!in(rule, 0, s.rules.size() - 1) || !in(target, 0, s.rules.get(rule).targets.size() - 1)) return -1;
        if (!in(what, 0, 3)) return -2;
        T t = s.rules.get(rule).targets.get(target);
        return new int[] {t.service, t.weight, t.credit, t.chosen}[what];
    }

    int trace(int index, int what) {
        if (!in(index, 0, trace.size() - 1)) return -1;
        return in(what, 0, 3) ? trace.get(index)[what] : -2;
    }

    int count(int what) {
        switch (what) {
            case 0: return s.backends.size();
            case 1: return s.rules.size();
            case 10: return s.time;
            case 11: return steps.size();
            case 12: return trace.size();
            case 13: return text.length();
            default: return in(what, 2, 9) ? s.counts[what] : -2;
        }
    }

    int print(int rule) {
        if (!in(rule, 0, s.rules.size() - 1)) return -1;
        R r = s.rules.get(rule);
        List<String> targets = new ArrayList<>();
        for (T t : r.targets) targets.add(t.service + (t.weight == 1 ? "" : ":" + t.weight));
        printed = r.prefix + (r.low == 0 && r.high == 9 ? "" : "[" + r.low + "-" + r.high + "]")
                + "=" + String.join(",", targets) + (r.shadow < 0 ? "" : "~" + r.shadow)
                + (r.most == 1 ? "" : "*" + r.most);
        return printed.length();
    }

    int printed(int index) {
        return in(index, 0, printed.length() - 1) ? printed.charAt(index) : -1;
    }

    int mark() {
        unmark();
        marked = s.copy();
        return s.backends.size();
    }

    private int play(int condition, boolean changed) {
        if (!in(condition, 0, 4)) return -2;
        if (marked == null) return -1;
        State again = marked.copy();
        int number = 0;
        for (Step step : steps) {
            if (step.path() == null) {
                tick(again);
            } else {
                int answer = answer(again, step.path(), step.header(), step.zone(), condition, new ArrayList<>());
                if (changed ? answer != step.answer() : answer >= 0) number++;
            }
        }
        return number;
    }

    int play(int condition) {
        return play(condition, true);
    }

    int answeredIf(int condition) {
        return play(condition, false);
    }

    int save() {
        saved = s.copy();
        return s.backends.size();
    }

    int restore() {
        if (saved == null) return -1;
        unmark();
        s = saved.copy();
        trace = new ArrayList<>();
        return s.backends.size();
    }
}
