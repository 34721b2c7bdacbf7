import java.io.IOException;
import java.lang.reflect.Method;
import java.lang.reflect.Modifier;
import java.nio.file.Files;
import java.nio.file.Path;
import java.util.ArrayList;
import java.util.List;
import java.util.regex.Matcher;
import java.util.regex.Pattern;
import java.util.stream.Stream;

/** What README.md tells of the class is so: its example, its map in letters, and the calls and tests that it names. */
public final class ReadmeTest {
    private static final Pattern CALL = Pattern.compile("x\\.(\\w+)\\(([-0-9, ]*)\\);\\s+// (-?\\d+): .*");
    private static final Pattern LETTERS = Pattern.compile("each sign of `([^`]+)`[^(]*`map\\(\\)`[^(]*\\((\\d+)\\)");
    private static int wrong = 0;

    private static void fault(String text) {
        wrong++;
        System.out.println(text);
    }

    public static void main(String[] args) throws Exception {
        String page = Files.readString(Path.of("README.md"));
        example(page);
        letters(page);
        names(page);
        System.out.println(wrong == 0 ? "README.md is as the class is" : wrong + " faults");
        if (wrong != 0) {
            System.exit(1);
        }
    }

    private static void example(String page) throws Exception {
        int begin = page.indexOf("```java\n");
        int end = page.indexOf("```", begin + 3);
        String[] lines = begin < 0 || end < 0 ? new String[0] : page.substring(begin, end).split("\n");
        PostmanRounds x = new PostmanRounds();
        int calls = 0;
        for (String line : lines) {
            if (line.startsWith("x.")) {
                answer(x, line);
                calls++;
            }
        }
        if (calls == 0) {
            fault("there is no example");
        }
    }

    private static void answer(PostmanRounds x, String line) throws Exception {
        Matcher call = CALL.matcher(line);
        if (!call.matches()) {
            fault("no answer stands behind: " + line);
            return;
        }
        List<Object> numbers = new ArrayList<>();
        List<Class<?>> types = new ArrayList<>();
        for (String number : call.group(2).isEmpty() ? new String[0] : call.group(2).split(", ")) {
            numbers.add(Integer.parseInt(number));
            types.add(int.class);
        }
        Method method = PostmanRounds.class.getMethod(call.group(1), types.toArray(new Class<?>[0]));
        long got = ((Number) method.invoke(x, numbers.toArray())).longValue();
        if (got != Long.parseLong(call.group(3))) {
            fault("answered " + got + ": " + line);
        }
    }

    private static void letters(String page) {
        Matcher told = LETTERS.matcher(page);
        if (!told.find()) {
            fault("there is no map in letters");
            return;
        }
        PostmanRounds x = new PostmanRounds();
        for (char letter : told.group(1).toCharArray()) {
            x.letter(letter);
        }
        int got = x.map();
        if (got != Integer.parseInt(told.group(2))) {
            fault("map() of " + told.group(1) + " answered " + got);
        }
    }

    private static void names(String page) throws IOException {
        for (Method m : PostmanRounds.class.getDeclaredMethods()) {
            if (Modifier.isPublic(m.getModifiers()) && !page.contains("`" + m.getName() + "`")) {
                fault("a call is not named: " + m.getName());
            }
        }
        try (Stream<Path> files = Files.list(Path.of("src/test/java"))) {
            for (Path file : files.sorted().toList()) {
                String name = file.getFileName().toString().replace(".java", "");
                if (!page.contains("`" + name + "`")) {
                    fault("a test is not named: " + name);
                }
            }
        }
    }
}
