import java.io.IOException;
import java.lang.reflect.Field;
import java.lang.reflect.Method;
import java.lang.reflect.Modifier;
import java.nio.file.Files;
import java.nio.file.Path;
import java.util.List;
import java.util.Set;
import java.util.TreeSet;
import java.util.regex.Matcher;
import java.util.regex.Pattern;
import java.util.stream.Collectors;
import java.util.stream.Stream;

/** What README.md says: its code stands here line for line, and its lists are whole. */
public final class ReadmeTest {
    private static final Path TESTS = Path.of("src/test/java");

    public static void main(String[] args) throws IOException {
        String readme = Files.readString(Path.of("README.md"));
        example();
        theSameCode(readme);
        methodsAndConstants(readme);
        tests(readme);
        Check.end();
    }

    private static void type(MeshRouter router, String text) {
        for (char c : text.toCharArray()) {
            router.append(c, 1);
        }
    }

    private static void example() {
        MeshRouter router = new MeshRouter();
        router.addBackend(0, 0, 1);              // backend 0 of service 0, in zone 0, with weight 1
        router.addBackend(0, 1, 1);              // backend 1 of service 0, in zone 1, with weight 1
        type(router, "/a=0*2");                  // paths that begin with /a go to service 0, in two attempts
        int rule = router.addRule();             // 0, the number of the rule
        type(router, "/ab");
        int answer = router.request(5, 0);       // header value 5, from zone 0: 0, the backend of that zone
        Check.due("addRule", rule, 0);
        Check.due("request", answer, 0);

        router.setPattern(0, 0);                 // all attempts of backend 0 fail from now on
        router.mark();
        type(router, "/ab");
        int second = router.request(5, 0);       // 1, by a second attempt
        int attempts = router.count(12);         // 2, the attempts in the trace
        int changed = router.play(1);            // 1 request has another answer without further attempts
        int answered = router.answeredIf(1);     // 0 requests are answered by a backend then
        Check.due("the second request", second, 1);
        Check.due("count", attempts, 2);
        Check.due("play", changed, 1);
        Check.due("answeredIf", answered, 0);
    }

    /** The lines of a text without what they are indented by. */
    private static String flat(String text) {
        return text.lines().map(String::strip).collect(Collectors.joining("\n"));
    }

    private static void theSameCode(String readme) throws IOException {
        String here = flat(Files.readString(TESTS.resolve("ReadmeTest.java")));
        Matcher block = Pattern.compile("(?s)```java\n(.*?)```").matcher(readme);
        int blocks = 0;
        while (block.find()) {
            blocks++;
            Check.holds("the code of README.md stands in this test: " + block.group(1),
                    here.contains(flat(block.group(1))));
        }
        Check.due("pieces of code", blocks, 3);
    }

    private static void methodsAndConstants(String readme) {
        for (Method method : MeshRouter.class.getDeclaredMethods()) {
            Check.holds("README.md names " + method.getName(),
                    !Modifier.isPublic(method.getModifiers()) || readme.contains('`' + method.getName() + '`'));
        }
        for (Field field : MeshRouter.class.getDeclaredFields()) {
            Check.holds("README.md names " + field.getName(),
                    !Modifier.isPublic(field.getModifiers()) || readme.contains('`' + field.getName() + '`'));
        }
        for (Class<?> inside : MeshRouter.class.getDeclaredClasses()) {
            Check.holds("README.md names " + inside.getSimpleName(),
                    readme.contains('`' + inside.getSimpleName() + '`'));
        }
    }

    /** Each test is named, the promises' by the first and the last one, and each that is named is there. */
    private static void tests(String readme) throws IOException {
        Set<String> named = new TreeSet<>();
        Matcher name = Pattern.compile("`(\\w+Test)`").matcher(readme);
        while (name.find()) {
            named.add(name.group(1));
        }
        for (int promise = 1; promise <= 27; promise++) {
            named.add(String.format("Promise%02dTest", promise));
        }
        try (Stream<Path> files = Files.list(TESTS)) {
            List<String> there = files.map(file -> file.getFileName().toString())
                    .filter(file -> file.endsWith("Test.java"))
                    .map(file -> file.substring(0, file.length() - ".java".length())).sorted().toList();
            Check.due("the tests", String.join(" ", there), String.join(" ", named));
        }
    }
}
