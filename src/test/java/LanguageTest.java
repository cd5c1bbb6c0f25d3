import java.io.IOException;
import java.lang.reflect.Field;
import java.lang.reflect.Method;
import java.lang.reflect.Modifier;
import java.nio.file.Files;
import java.nio.file.Path;
import java.util.ArrayList;
import java.util.Arrays;
import java.util.List;
import java.util.Set;
import java.util.TreeSet;
import java.util.regex.Matcher;
import java.util.regex.Pattern;

/** The rules of LANGUAGE.md that can be seen from the source or by reflection. */
public final class LanguageTest {
    private static final Path SOURCE = Path.of("src/main/java/MeshRouter.java");
    private static final String FACE = "addBackend/3 addRule/0 answeredIf/1 append/2 backend/2 "
            + "configure/6 count/1 foresee/2 mark/0 match/1 moveRule/2 play/1 print/1 printed/1 "
            + "remembered/2 removeRule/1 request/2 restore/0 save/0 service/2 setPattern/2 "
            + "setWeight/2 setZoneLimit/1 target/3 tick/1 trace/2";
    private static final Set<String> LIBRARY = Set.of("System.arraycopy", "Arrays.copyOf", "Arrays.copyOfRange",
            "Arrays.fill", "List.of", "Math.abs", "Math.min", "Math.max", "Math.floorDiv", "Math.floorMod",
            "Integer.compare", "Integer.min", "Integer.max", "Integer.bitCount", "Long.compare", "Long.min",
            "Long.max", "Long.bitCount");

    public static void main(String[] args) throws IOException {
        face();
        membersOfTheFace();
        classesInside();
        String code = Files.readString(SOURCE);
        signs(code);
        source(code.replaceAll("(?s)/\\*.*?\\*/", " ").replaceAll("//[^\n]*", " ")
                .replaceAll("'(\\\\.|[^'])'", "0").replaceAll("\"[^\"\n]*\"", "text"));
        Check.end();
    }

    /** Rule 1: the document's methods and constants, and nothing else that can be seen. */
    private static void face() {
        Class<?> face = MeshRouter.class;
        Check.due("the class", Modifier.toString(face.getModifiers()), "public final");
        Check.due("constructors", face.getDeclaredConstructors().length, 1);
        Check.holds("a public constructor", Modifier.isPublic(face.getDeclaredConstructors()[0].getModifiers()));
        Check.due("the package", face.getPackageName(), "");
        Set<String> seen = new TreeSet<>();
        for (Method method : face.getDeclaredMethods()) {
            if (!Modifier.isPrivate(method.getModifiers()) && !method.isSynthetic()) {
                Check.due(method.getName(), Modifier.toString(method.getModifiers()), "public");
                Check.due(method.getName(), method.getReturnType().getName(), "int");
                seen.add(method.getName() + "/" + method.getParameterCount());
            }
        }
        Check.due("the methods", String.join(" ", seen), FACE);
    }

    private static void membersOfTheFace() {
        int constants = 0;
        for (Field field : MeshRouter.class.getDeclaredFields()) {
            boolean constant = Modifier.isPublic(field.getModifiers());
            constants += constant ? 1 : 0;
            Check.holds("private, or a constant of the face: " + field.getName(),
                    constant && Modifier.isFinal(field.getModifiers()) || Modifier.isPrivate(field.getModifiers()));
        }
        Check.due("constants", constants, 7);
    }

    /** Rules 1, 2, 5 and 11. */
    private static void classesInside() {
        List<Class<?>> all = new ArrayList<>(Arrays.asList(MeshRouter.class.getDeclaredClasses()));
        for (Class<?> one : all) {
            Check.holds("static: " + one, Modifier.isStatic(one.getModifiers()));
            Check.holds("private or package-visible: " + one,
                    !Modifier.isPublic(one.getModifiers()) && !Modifier.isProtected(one.getModifiers()));
        }
        all.add(MeshRouter.class);
        Check.holds("some twelve classes", all.size() <= 13);
        for (Class<?> one : all) {
            int fields = 0;
            for (Field field : one.getDeclaredFields()) {
                boolean fixed = Modifier.isStatic(field.getModifiers());
                fields += fixed ? 0 : 1;
                Check.holds("static fields are final: " + field, !fixed || Modifier.isFinal(field.getModifiers()));
            }
            Check.holds("some twenty fields: " + one, fields <= 21);
            for (Method method : one.getDeclaredMethods()) {
                Check.holds("at most seven parameters: " + method, method.getParameterCount() <= 7);
                Check.holds("no private method bears the name of a public one: " + method,
                        !Modifier.isPrivate(method.getModifiers()) || !FACE.contains(method.getName() + "/"));
            }
        }
    }

    /** Rule 4: the signs of the source are 1 to 127. */
    private static void signs(String code) {
        for (int i = 0; i < code.length(); i++) {
            Check.holds("a sign from 1 to 127, at " + i, code.charAt(i) >= 1 && code.charAt(i) <= 127);
        }
    }

    /** Rules 2, 4, 5, 6 and 13, as far as words tell. */
    private static void source(String code) {
        List<String> banned = List.of("\\bthrow\\b", "\\bthrows\\b", "\\btry\\b", "\\bcatch\\b",
                "\\bsynchronized\\b",
                "\\bassert\\b", "\\bpackage\\b", "\\bprotected\\b", "::", "\\bThread\\b", "\\bfinalize\\b",
                "\\bhashCode\\b", "\\bstatic\\s*\\{", "\\bnative\\b", "\\bvolatile\\b", "\\byield\\b",
                "\\bimport\\s+(?!java\\.util\\.(ArrayList|List|Arrays|Iterator);)", "\\bjava\\.(?!util\\.)");
        for (String pattern : banned) {
            Check.holds("no " + pattern, !Pattern.compile(pattern).matcher(code).find());
        }
        String withoutArrowsOfSwitches = code.replaceAll("\\b(case\\b[^;{}>]*|default\\s*)->", " ");
        Check.holds("no lambda", !withoutArrowsOfSwitches.contains("->"));
        Matcher matcher = Pattern.compile("\\b(System|Math|Integer|Long|Arrays|List)\\.(\\w+)").matcher(code);
        while (matcher.find()) {
            Check.holds("of the library: " + matcher.group(), LIBRARY.contains(matcher.group()));
        }
    }
}
