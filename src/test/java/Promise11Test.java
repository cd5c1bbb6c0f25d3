/** match. */
public final class Promise11Test {
    private static MeshRouter x;

    public static void main(String[] args) {
        x = new MeshRouter();
        due("/", 0, MeshRouter.NONE);
        Check.rule(x, "/ab[2-5]=0");
        Check.rule(x, "/a/[3-3]=0");
        Check.rule(x, "/a=0");
        Check.rule(x, "/ab=0");
        Check.rule(x, "//=0");
        due("/ab", 2, 0);
        due("/ab", 5, 0);
        due("/ab", 1, 2);
        due("/ab", 6, 2);
        due("/abc/d", 4, 0);
        due("/a/", 3, 1);
        due("/a/z", 3, 1);
        due("/a/z", 4, 2);
        due("/a", 3, 2);
        due("/az", 9, 2);
        due("/", 0, MeshRouter.NONE);
        due("//", 0, 4);
        due("/b", 9, MeshRouter.NONE);
        due("/b", -1, MeshRouter.BAD_ARGUMENT);
        due("/b", 10, MeshRouter.BAD_ARGUMENT);
        badTexts();
        Check.end();
    }

    private static void badTexts() {
        for (String text : new String[] {"", "a", "a/", "/A", "/a ", "/a1", "/a=0", "/`", "/{", "/.", "/0"}) {
            due(text, 0, MeshRouter.BAD_TEXT);
            due(text, 10, MeshRouter.BAD_ARGUMENT);
        }
        x.removeRule(4);
        x.append('/', 40);
        Check.due("match(0) of 40 characters", x.match(0), MeshRouter.NONE);
        x.request(0, 0);
        x.append('/', 1);
        x.append('z', 39);
        Check.due("match(0) of 40 characters", x.match(0), MeshRouter.NONE);
    }

    private static void due(String path, int header, int want) {
        Check.type(x, path);
        String before = Check.all(x);
        Check.due("match(" + header + ") of " + path, x.match(header), want);
        Check.same("nothing changed", Check.all(x), before);
        x.request(-1, -1);
        Check.due("count(13)", x.count(13), 0);
    }
}
