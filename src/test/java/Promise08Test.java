/** addRule. */
public final class Promise08Test {
    public static void main(String[] args) {
        good();
        errors();
        full();
        defaults();
        Check.end();
    }

    private static void good() {
        String[] rules = {"/=0", "/a=3", "//a//=1,2", "/z[0-8]=0:9,1:2,3:3~2*4", "/[9-9]=2~2",
            "/q[1-9]=1*2", "/abcdefghijklmnopqrstuvwxyz=0:4,3~0*3", "/[0-0]=3:2*3"};
        MeshRouter x = new MeshRouter();
        x.mark();
        for (int i = 0; i < rules.length; i++) {
            Check.due("addRule() of " + rules[i], Check.rule(x, rules[i]), i);
            Check.due("count(13)", x.count(13), 0);
            Check.same("print", Check.print(x, i), rules[i]);
        }
        Check.due("count(1)", x.count(1), 8);
        Check.due("play(0), ended", x.play(0), MeshRouter.NONE);
    }

    private static void errors() {
        MeshRouter x = new MeshRouter();
        x.mark();
        String[] texts = {"", "a", "=", "/", "/a", "/A", "/a1", "/`", "/{", "/a[", "/a[a", "/a[:", "/a[/",
            "/a[5", "/a[5=", "/a[5-", "/a[5-4", "/a[5-:", "/a[5-5", "/a[5-5)", "/a[5-5]", "/a[5-5]0",
            "/a[5-5]=", "/=4", "/=/", "/=a", "/=0:", "/=0:0", "/=0::", "/=0:11", "/=0,", "/=0,0",
            "/=0,1,0", "/=0,1,1", "/=0,1,2,", "/=0,1,2,3", "/=0,1,4", "/=0~", "/=0~4", "/=0~/", "/=0~~",
            "/=0~1,", "/=0~1:", "/=0~11", "/=0*", "/=0*0", "/=0*5", "/=0*1*", "/=0*1~1", "/=0*44",
            "/=0 ", "/=0/", "/=00", "/=0=", "/=0[", "/[0-9][0-9]=0", " /=0", "/ =0", "/=0:1:1",
            "/a]=0", "/a-=0", "/a,=0"};
        int[] offsets = {0, 0, 0, 1, 2, 1, 2, 1, 1, 3, 3, 3, 3,
            4, 4, 5, 5, 5, 6, 6, 7, 7,
            8, 2, 2, 2, 4, 4, 4, 5, 4, 4,
            6, 6, 7, 7, 6, 4, 4, 4, 4,
            5, 5, 5, 4, 4, 4, 5, 5, 5,
            3, 3, 3, 3, 3, 6, 0, 1, 5,
            2, 2, 2};
        for (int i = 0; i < texts.length; i++) {
            Check.due("addRule() of " + texts[i], Check.rule(x, texts[i]), -100 - offsets[i]);
            Check.due("play(0), still marked", x.play(0), 0);
            Check.due("count(1)", x.count(1), 0);
            Check.due("count(13)", x.count(13), 0);
        }
        x.append('/', 40);
        Check.due("addRule() that ends too early", x.addRule(), -140);
        x.append('/', 1);
        x.append(0, 1);
        Check.due("addRule() with a NUL", x.addRule(), -101);
    }

    private static void full() {
        MeshRouter x = new MeshRouter();
        for (int i = 0; i < 8; i++) {
            Check.due("addRule()", Check.rule(x, "/=1"), i);
        }
        x.mark();
        String before = Check.all(x);
        Check.due("the ninth addRule()", Check.rule(x, "/=1"), MeshRouter.FULL);
        Check.due("a wrong ninth addRule()", Check.rule(x, "/=9"), -102);
        Check.same("nothing changed, the text is empty", Check.all(x), before);
    }

    private static void defaults() {
        MeshRouter x = new MeshRouter();
        x.addBackend(0, 0, 1);
        x.addBackend(0, 0, 1);
        x.setPattern(0, 0);
        Check.rule(x, "/=0~1*3");
        Check.rule(x, "/=0");
        x.removeRule(0);
        Check.same("targets", Check.targets(x, 0), "0,1,0,0");
        Check.due("one attempt", Check.ask(x, "/", 9, 0), MeshRouter.FAILED);
        Check.due("count(7)", x.count(7), 1);
        Check.due("no shadow", x.count(8), 0);
        Check.due("the range begins with 0", Check.ask(x, "/", 0, 0), 1);
        Check.rule(x, "/=1");
        Check.due("the new rule is the last one", Check.ask(x, "/", 0, 0), MeshRouter.FAILED);
    }
}
