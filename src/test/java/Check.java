/** What the tests share: comparing answers, typing texts, and a picture of all that can be read. */
final class Check {
    private static int wrong;

    private Check() {
    }

    static void due(String call, int got, int want) {
        if (got != want) {
            wrong++;
            System.out.println(call + " answered " + got + ", due is " + want);
        }
    }

    static void same(String what, String got, String want) {
        if (!got.equals(want)) {
            wrong++;
            System.out.println(what + ": got\n" + got + "\ndue is\n" + want);
        }
    }

    static void differs(String what, String got, String other) {
        if (got.equals(other)) {
            wrong++;
            System.out.println(what + ": should not be\n" + got);
        }
    }

    static void end() {
        System.out.println(wrong == 0 ? "all answers are as due" : wrong + " answers are not as due");
        if (wrong != 0) {
            System.exit(1);
        }
    }

    static MeshRouter type(MeshRouter x, String text) {
        for (int i = 0; i < text.length(); i++) {
            x.append(text.charAt(i), 1);
        }
        return x;
    }

    static int rule(MeshRouter x, String text) {
        return type(x, text).addRule();
    }

    static int ask(MeshRouter x, String path, int header, int zone) {
        return type(x, path).request(header, zone);
    }

    /** Asks with header value 0 so often, and lists the answers. */
    static String askOften(MeshRouter x, String path, int zone, int times) {
        StringBuilder answers = new StringBuilder();
        for (int i = 0; i < times; i++) {
            answers.append(i == 0 ? "" : " ").append(ask(x, path, 0, zone));
        }
        return answers.toString();
    }

    static String print(MeshRouter x, int rule) {
        int length = x.print(rule);
        StringBuilder text = new StringBuilder();
        for (int i = 0; i < length; i++) {
            text.append((char) x.printed(i));
        }
        return text.toString();
    }

    /** The parts of all attempts of the trace: backend, succeeded, near, ejected. */
    static String trace(MeshRouter x) {
        StringBuilder all = new StringBuilder();
        for (int i = 0; i < x.count(12); i++) {
            all.append(i == 0 ? "" : " ");
            for (int what = 0; what < 4; what++) {
                all.append(what == 0 ? "" : ",").append(x.trace(i, what));
            }
        }
        return all.toString();
    }

    static String backend(MeshRouter x, int backend) {
        StringBuilder all = new StringBuilder();
        for (int what = 0; what < 12; what++) {
            all.append(what == 0 ? "" : " ").append(x.backend(backend, what));
        }
        return all.toString();
    }

    static String service(MeshRouter x, int service) {
        StringBuilder all = new StringBuilder();
        for (int what = 0; what < 13; what++) {
            all.append(what == 0 ? "" : " ").append(x.service(service, what));
        }
        return all.toString();
    }

    static String kept(MeshRouter x, int service) {
        StringBuilder all = new StringBuilder();
        for (int header = 0; header < 10; header++) {
            all.append(header == 0 ? "" : " ").append(x.remembered(service, header));
        }
        return all.toString();
    }

    /** The properties of all targets of a rule: service, weight, credit, times chosen. */
    static String targets(MeshRouter x, int rule) {
        StringBuilder all = new StringBuilder();
        for (int target = 0; target < 3 && x.target(rule, target, 0) != MeshRouter.NONE; target++) {
            all.append(target == 0 ? "" : " ");
            for (int what = 0; what < 4; what++) {
                all.append(what == 0 ? "" : ",").append(x.target(rule, target, what));
            }
        }
        return all.toString();
    }

    /** Everything that is saved and can be read, but for the prefixes of the rules. */
    static String state(MeshRouter x) {
        StringBuilder all = new StringBuilder();
        for (int i = 0; i < x.count(0); i++) {
            all.append("backend ").append(i).append(": ").append(backend(x, i)).append('\n');
        }
        for (int i = 0; i < 4; i++) {
            all.append("service ").append(i).append(": ").append(service(x, i))
                    .append(" keeps ").append(kept(x, i)).append('\n');
        }
        for (int i = 0; i < x.count(1); i++) {
            all.append("targets ").append(i).append(": ").append(targets(x, i)).append('\n');
        }
        all.append("counts:");
        for (int what = 0; what < 11; what++) {
            all.append(' ').append(x.count(what));
        }
        return all.append('\n').toString();
    }

    /** The state, and the trace, the length of the recording, the text's length and the printed text. */
    static String all(MeshRouter x) {
        StringBuilder all = new StringBuilder(state(x));
        all.append("trace: ").append(trace(x)).append('\n');
        all.append("recorded ").append(x.count(11)).append(", typed ").append(x.count(13));
        all.append(", marked ").append(x.play(0) != MeshRouter.NONE).append(", printed ");
        for (int i = 0; x.printed(i) != MeshRouter.NONE; i++) {
            all.append((char) x.printed(i));
        }
        return all.append('\n').toString();
    }
}
