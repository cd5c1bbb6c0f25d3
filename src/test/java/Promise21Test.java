/** print. */
public final class Promise21Test {
    public static void main(String[] args) {
        MeshRouter x = new MeshRouter();
        Check.due("print(0)", x.print(0), MeshRouter.NONE);
        String[] typed = {"/[0-9]=0:1*1", "/a[0-8]=0:2,1:1~0*2", "/b[1-9]=3:9,2:1,1~3*1", "/[4-4]=2*4",
            "/abcdefghijklmnopqr[3-7]=0:2,1:3,3:4~2*4", "//zz/[0-9]=1:1,2:1,3:1~0*1"};
        String[] printed = {"/=0", "/a[0-8]=0:2,1~0*2", "/b[1-9]=3:9,2,1~3", "/[4-4]=2*4",
            "/abcdefghijklmnopqr[3-7]=0:2,1:3,3:4~2*4", "//zz/=1,2,3~0"};
        for (int i = 0; i < typed.length; i++) {
            Check.due("addRule() of " + typed[i], Check.rule(x, typed[i]), i);
        }
        x.mark();
        Check.type(x, "/q");
        for (int i = 0; i < typed.length; i++) {
            Check.due("print", x.print(i), printed[i].length());
            Check.same("printed", Check.print(x, i), printed[i]);
            Check.due("beyond the end", x.printed(printed[i].length()), MeshRouter.NONE);
        }
        Check.same("the short one", Check.print(x, 0), "/=0");
        Check.due("print(6)", x.print(6), MeshRouter.NONE);
        Check.due("print(-1)", x.print(-1), MeshRouter.NONE);
        Check.due("the text before stays", x.printed(2), '0');
        Check.due("the typed text stays", x.count(13), 2);
        Check.due("play(0), still marked", x.play(0), 0);
        x.removeRule(0);
        Check.due("the printed text stays", x.printed(2), '0');
        Check.end();
    }
}
