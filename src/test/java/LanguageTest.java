import java.io.IOException;
import java.lang.reflect.Field;
import java.lang.reflect.Method;
import java.lang.reflect.Modifier;
import java.nio.file.Files;
import java.nio.file.Path;
import java.util.Arrays;
import java.util.List;
import java.util.Set;
import java.util.TreeSet;
import java.util.regex.Matcher;
import java.util.regex.Pattern;

/** The rules of LANGUAGE.md that can be seen from the source or by reflection. */
public final class LanguageTest {
    private static final String SOURCE = "src/main/java/MeshRouter.java";
    private static final String FACE = "addBackend/3 addRule/0 answeredIf/1 append/2 backend/2 "
            + "configure/6 count/1 foresee/2 mark/0 match/1 moveRule/2 play/1 print/1 printed/1 "
            + "remembered/2 removeRule/1 request/2 restore/0 save/0 service/2 setPattern/2 "
            + "setWeight/2 setZoneLimit/1 target/3 tick/1 trace/2";

    public static void main(String[] args) throws IOException {
        face();
        classesInside();
        source();
        Check.end();
    }

    private static void face() {
        Class<?> face = MeshRouter.class;
        Check.same("the class", Modifier.toString(face.getModifiers()), "public final");
        Check.due("constructors", face.getDeclaredConstructors().length, 1);
        Set<String> seen = new TreeSet<>();
        Set<String> hidden = new TreeSet<>();
        for (Method method : face.getDeclaredMethods()) {
            if (Modifier.isPrivate(method.getModifiers())) {
                hidden.add(method.getName());
            } else {
                Check.same(method.getName(), Modifier.toString(method.getModifiers()), "public");
                Check.same(method.getName(), method.getReturnType().getName(), "int");
                seen.add(method.getName() + "/" + method.getParameterCount());
            }
        }
        Check.same("the methods", String.join(" ", seen), FACE);
        for (String name : hidden) {
            Check.due("the name of a private method, " + name, FACE.contains(name + "/") ? 1 : 0, 0);
        }
        int constants = 0;
        for (Field field : face.getDeclaredFields()) {
            boolean constant = Modifier.isPublic(field.getModifiers());
            constants += constant ? 1 : 0;
            Check.due("private, or a constant of the face: " + field.getName(),
                    constant || Modifier.isPrivate(field.getModifiers()) ? 1 : 0, 1);
        }
        Check.due("constants", constants, 7);
    }

    private static void classesInside() {
        Class<?>[] inside = MeshRouter.class.getDeclaredClasses();
        Check.due("at most twelve classes", inside.length < 12 ? 1 : 0, 1);
        for (Class<?> one : inside) {
            Check.due("static: " + one, Modifier.isStatic(one.getModifiers()) ? 1 : 0, 1);
            Check.due("not public: " + one, Modifier.isPublic(one.getModifiers()) ? 1 : 0, 0);
            for (Method method : one.getDeclaredMethods()) {
                Check.due("at most seven parameters: " + method, method.getParameterCount() < 8 ? 1 : 0, 1);
                Check.due("no name of the face: " + method,
                        FACE.contains(method.getName() + "/") ? 1 : 0, 0);
            }
        }
        Class<?>[] all = Arrays.copyOf(inside, inside.length + 1);
        all[inside.length] = MeshRouter.class;
        for (Class<?> one : all) {
            int fields = 0;
            for (Field field : one.getDeclaredFields()) {
                boolean fixed = Modifier.isStatic(field.getModifiers());
                fields += fixed ? 0 : 1;
                Check.due("static fields are final: " + field,
                        fixed && !Modifier.isFinal(field.getModifiers()) ? 1 : 0, 0);
            }
            Check.due("at most twenty fields: " + one, fields <= 20 ? 1 : 0, 1);
        }
    }

    private static void source() throws IOException {
        String code = Files.readString(Path.of(SOURCE))
                .replaceAll("(?s)/\\*.*?\\*/", " ").replaceAll("//[^\n]*", " ").replaceAll("'.'", "0");
        List<String> banned = List.of("\\bthrow\\b", "\\btry\\b", "\\bcatch\\b", "\\bsynchronized\\b",
                "\\bassert\\b", "\\bimport\\b", "\\bpackage\\b", "\\bprotected\\b", "->", "::", "\"",
                "\\bSystem\\b", "\\bThread\\b", "\\bfloat\\b", "\\bdouble\\b", "Exact\\b", "\\binstanceof\\b",
                "\\bequals\\b", "\\bhashCode\\b", "\\btoString\\b", "\\bstatic\\s*\\{");
        for (String pattern : banned) {
            Matcher matcher = Pattern.compile(pattern).matcher(code);
            Check.due("uses of " + pattern, matcher.find() ? 1 : 0, 0);
        }
        Set<String> library = new TreeSet<>();
        Matcher matcher = Pattern.compile("\\b(Math|Integer|Long|Arrays|String|StringBuilder|ArrayList|List)\\b(\\.\\w+)?")
                .matcher(code);
        while (matcher.find()) {
            library.add(matcher.group());
        }
        Check.same("the library that is used", library.toString(), "[Math.abs, Math.min]");
    }
}
