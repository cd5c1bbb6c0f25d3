/** Compares what is answered with what is due, and ends a test with exit code 1 if they differ. */
final class Check {
    private static int wrong;

    private Check() {
    }

    static void due(String what, String got, String want) {
        if (!got.equals(want)) {
            report(what + " answered " + got + ", due is " + want);
        }
    }

    static void due(String what, int got, int want) {
        due(what, Integer.toString(got), Integer.toString(want));
    }

    static void holds(String what, boolean good) {
        if (!good) {
            report(what + " does not hold");
        }
    }

    /** Compares two pictures, and tells the first lines that differ. */
    static void same(String what, String got, String want) {
        if (!got.equals(want)) {
            report(what);
            String[] gotLines = got.split("\n");
            String[] wantLines = want.split("\n");
            int told = 0;
            for (int i = 0; i < Math.max(gotLines.length, wantLines.length) && told < 8; i++) {
                String gotLine = i < gotLines.length ? gotLines[i] : "no line";
                String wantLine = i < wantLines.length ? wantLines[i] : "no line";
                if (!gotLine.equals(wantLine)) {
                    told++;
                    System.out.println("    got    " + gotLine + "\n    due is " + wantLine);
                }
            }
        }
    }

    static void end() {
        System.out.println(wrong == 0 ? "all answers are as due" : wrong + " answers are not as due");
        if (wrong != 0) {
            System.exit(1);
        }
    }

    private static void report(String message) {
        wrong++;
        System.out.println(place() + ": " + message);
    }

    /** The line of the test that is running. */
    private static String place() {
        for (StackTraceElement element : new Throwable().getStackTrace()) {
            if (element.getClassName().endsWith("Test")) {
                return element.getMethodName() + ", line " + element.getLineNumber();
            }
        }
        return "somewhere";
    }
}
