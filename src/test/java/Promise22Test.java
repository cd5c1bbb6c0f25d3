/** printed. */
public final class Promise22Test {
    public static void main(String[] args) {
        MeshRouter x = new MeshRouter();
        Check.due("printed(0)", x.printed(0), MeshRouter.NONE);
        Check.type(x, "/a");
        Check.due("printed(0)", x.printed(0), MeshRouter.NONE);
        x.request(0, 0);
        Check.rule(x, "/b[1-2]=3:4,0~1*2");
        Check.due("print(0)", x.print(0), 17);
        String text = "/b[1-2]=3:4,0~1*2";
        for (int i = 0; i < text.length(); i++) {
            Check.due("printed(" + i + ")", x.printed(i), text.charAt(i));
        }
        Check.due("printed(17)", x.printed(17), MeshRouter.NONE);
        Check.due("printed(-1)", x.printed(-1), MeshRouter.NONE);
        Check.due("printed(40)", x.printed(40), MeshRouter.NONE);
        Check.due("printed(min)", x.printed(Integer.MIN_VALUE), MeshRouter.NONE);
        Check.due("printed(max)", x.printed(Integer.MAX_VALUE), MeshRouter.NONE);
        x.save();
        Check.rule(x, "/c=2");
        Check.due("print(1)", x.print(1), 4);
        Check.due("printed(4)", x.printed(4), MeshRouter.NONE);
        x.restore();
        Check.due("restoring leaves it", x.printed(1), 'c');
        Check.end();
    }
}
