/** append. */
public final class Promise07Test {
    public static void main(String[] args) {
        MeshRouter x = new MeshRouter();
        x.mark();
        Check.due("append(0, 1)", x.append(0, 1), 1);
        Check.due("append(127, 3)", x.append(127, 3), 4);
        Check.due("append(-1, 1)", x.append(-1, 1), MeshRouter.BAD_ARGUMENT);
        Check.due("append(128, 1)", x.append(128, 1), MeshRouter.BAD_ARGUMENT);
        Check.due("append(97, 0)", x.append(97, 0), MeshRouter.BAD_ARGUMENT);
        Check.due("append(97, 41)", x.append(97, 41), MeshRouter.BAD_ARGUMENT);
        Check.due("append(97, max)", x.append(97, Integer.MAX_VALUE), MeshRouter.BAD_ARGUMENT);
        Check.due("append(97, 37)", x.append(97, 37), MeshRouter.FULL);
        Check.due("append(128, 37)", x.append(128, 37), MeshRouter.BAD_ARGUMENT);
        Check.due("count(13)", x.count(13), 4);
        Check.due("append(97, 36)", x.append(97, 36), 40);
        Check.due("append(97, 1)", x.append(97, 1), MeshRouter.FULL);
        Check.due("count(13)", x.count(13), 40);
        Check.due("play(0), still marked", x.play(0), 0);
        severalTimes();
        Check.end();
    }

    private static void severalTimes() {
        MeshRouter x = new MeshRouter();
        x.append('/', 2);
        x.append('a', 36);
        x.append('=', 1);
        Check.due("append", x.append('2', 1), 40);
        Check.due("addRule()", x.addRule(), 0);
        Check.same("the rule", Check.print(x, 0), "//" + "a".repeat(36) + "=2");
        Check.due("append(47, 40)", x.append(47, 40), 40);
    }
}
