import java.io.IOException;
import java.lang.reflect.InvocationTargetException;
import java.lang.reflect.Method;
import java.nio.file.Files;
import java.nio.file.Path;
import java.util.Arrays;
import java.util.regex.Matcher;
import java.util.regex.Pattern;
import java.util.stream.Stream;

/** README.md: its example answers as it says, its constants are those of the class, and it names each test. */
public final class ReadmeTest {
    private static final String FIRST_LINE = "MownWords x = new MownWords();";
    private static final Pattern CALL = Pattern.compile("x\\.(\\w+)\\(([^)]*)\\); +// (-?\\d+): .+");
    private static final Pattern CONSTANT = Pattern.compile("\\| `([A-Z]+)` \\| (-\\d+) \\|");

    public static void main(String[] args) throws IOException, ReflectiveOperationException {
        String readme = Files.readString(Path.of("README.md"));
        example(readme);
        constants(readme);
        testsAreNamed(readme);
        Due.end();
    }

    private static void example(String readme) throws ReflectiveOperationException {
        Matcher block = Pattern.compile("(?s)```java\n(.*?)\n```").matcher(readme);
        Due.is("an example", block.find() ? 1 : 0, 1);
        String[] lines = block.group(1).split("\n");
        Due.is("it begins with a new object", lines[0].equals(FIRST_LINE) ? 1 : 0, 1);
        MownWords x = new MownWords();
        for (int i = 1; i < lines.length; i++) {
            Matcher call = CALL.matcher(lines[i]);
            boolean isCall = call.matches();
            Due.is("a call and its answer: " + lines[i], isCall ? 1 : 0, 1);
            if (isCall) {
                Due.is(lines[i], answer(x, call.group(1), call.group(2)), Integer.parseInt(call.group(3)));
            }
        }
    }

    private static int answer(MownWords x, String name, String arguments) throws IllegalAccessException, InvocationTargetException {
        String[] words = arguments.isEmpty() ? new String[0] : arguments.split(", *");
        for (Method method : MownWords.class.getMethods()) {
            if (method.getName().equals(name) && method.getParameterCount() == words.length) {
                Object[] values = new Object[words.length];
                for (int i = 0; i < words.length; i++) {
                    values[i] = value(method.getParameterTypes()[i], words[i]);
                }
                return (int) method.invoke(x, values);
            }
        }
        throw new IllegalArgumentException("no call " + name + " of " + words.length);
    }

    private static Object value(Class<?> type, String word) {
        if (type == boolean.class) {
            return Boolean.valueOf(word);
        }
        if (type == long.class) {
            return Long.decode(word.replaceFirst("L$", ""));
        }
        return Integer.decode(word);
    }

    private static void constants(String readme) throws ReflectiveOperationException {
        Matcher constant = CONSTANT.matcher(readme);
        int told = 0;
        while (constant.find()) {
            told++;
            Due.is(constant.group(1), MownWords.class.getField(constant.group(1)).getInt(null), Integer.parseInt(constant.group(2)));
        }
        Due.is("constants told", told, MownWords.class.getFields().length);
    }

    private static void testsAreNamed(String readme) throws IOException {
        try (Stream<Path> files = Files.list(Path.of("src/test/java"))) {
            String[] tests = files.map(file -> file.getFileName().toString().replace(".java", "")).toArray(String[]::new);
            Arrays.sort(tests);
            for (String test : tests) {
                Due.is("README.md names " + test, readme.contains("`" + test + "`") ? 1 : 0, 1);
            }
        }
    }
}
