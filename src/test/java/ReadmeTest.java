import java.io.IOException;
import java.lang.reflect.InvocationTargetException;
import java.lang.reflect.Method;
import java.nio.charset.StandardCharsets;
import java.nio.file.Files;
import java.nio.file.Path;
import java.util.Arrays;
import java.util.HashSet;
import java.util.List;
import java.util.Set;
import java.util.regex.Matcher;
import java.util.regex.Pattern;

/** README's example is done line by line: each call must answer what its remark begins with. */
public final class ReadmeTest {
    private static final Pattern TOLD = Pattern.compile("tell\\(x, \"(.*)\"\\);");
    private static final Pattern CALL = Pattern.compile("x\\.(\\w+)\\((.*)\\);\\s*// (-?\\w+).*");

    private ReadmeTest() {
    }

    public static void main(String[] args) throws IOException, ReflectiveOperationException {
        String readme = Files.readString(Path.of("README.md"), StandardCharsets.UTF_8);
        example(readme);
        names(readme);
        Check.finish("README");
    }

    private static void example(String readme) throws ReflectiveOperationException {
        Matcher block = Pattern.compile("(?s)### An example.*?```java\n(.*?)```").matcher(readme);
        Check.same("README has an example", block.find(), true);
        ThirdHands x = new ThirdHands();
        for (String line : block.group(1).lines().map(String::strip).toList()) {
            Matcher told = TOLD.matcher(line);
            Matcher call = CALL.matcher(line);
            if (told.matches()) {
                Check.feed(x, told.group(1));
            } else if (call.matches()) {
                Check.same("README's " + call.group(), answer(x, call.group(1), call.group(2)).equals(call.group(3)), true);
            } else {
                boolean known = line.isEmpty() || line.startsWith("//") || line.equals("ThirdHands x = new ThirdHands();");
                Check.same("README's line can be tried: " + line, known, true);
            }
        }
    }

    private static String answer(ThirdHands x, String name, String numbers) throws ReflectiveOperationException {
        Object[] arguments = numbers.isEmpty() ? new Object[0]
            : Arrays.stream(numbers.split(", ")).map(Integer::decode).toArray();
        Class<?>[] types = new Class<?>[arguments.length];
        Arrays.fill(types, int.class);
        try {
            return String.valueOf(ThirdHands.class.getMethod(name, types).invoke(x, arguments));
        } catch (InvocationTargetException e) {
            return e.getCause().getClass().getSimpleName();
        }
    }

    /** README tells of every call, and of every test. */
    private static void names(String readme) throws IOException {
        Set<String> calls = new HashSet<>();
        for (Method method : ThirdHands.class.getMethods()) {
            if (method.getDeclaringClass() == ThirdHands.class) {
                calls.add(method.getName());
            }
        }
        for (String call : calls) {
            boolean told = Pattern.compile("`" + call + "(`|\\()").matcher(readme).find();
            Check.same("README tells of " + call, told, true);
        }
        try (var files = Files.list(Path.of("src/test/java"))) {
            List<String> tests = files.map(f -> f.getFileName().toString()).filter(f -> f.endsWith("Test.java")).toList();
            for (String test : tests) {
                Check.same("README tells of " + test, readme.contains("`" + test.replace(".java", "") + "`"), true);
            }
        }
    }
}
