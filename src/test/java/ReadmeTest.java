import java.lang.reflect.Method;
import java.lang.reflect.Modifier;
import java.nio.file.Files;
import java.nio.file.Path;
import java.util.List;
import java.util.regex.Matcher;
import java.util.regex.Pattern;
import java.util.stream.Stream;

/** README.md tells what is so: its example's answers, every call, every test; run from the project's root. */
public final class ReadmeTest {
    private static final Pattern TYPED = Pattern.compile("for \\(char c : \"([^\"]*)\"\\.toCharArray\\(\\)\\) x\\.type\\(c\\);");
    // The number ahead of the : in the comment is the answer that the example tells.
    private static final Pattern CALL = Pattern.compile("x\\.(\\w+)\\(([^;]*)\\); +// (-?\\d+|[A-Z]+): .*");
    private static int wrong = 0;

    private static void fail(String what) {
        wrong++;
        System.out.println(what);
    }

    public static void main(String[] args) throws Exception {
        String readme = Files.readString(Path.of("README.md"));
        runExample(readme);
        namesEachCall(readme);
        namesEachTest(readme);
        System.out.println(wrong == 0 ? "README.md tells what is so" : wrong + " things are not as README.md tells");
        if (wrong != 0) System.exit(1);
    }

    private static void runExample(String readme) throws Exception {
        Matcher block = Pattern.compile("(?s)```java\n(.*?)```").matcher(readme);
        if (!block.find()) {
            fail("there is no example");
            return;
        }
        HungMargins x = new HungMargins();
        int calls = 0;
        for (String line : block.group(1).split("\n")) {
            Matcher typed = TYPED.matcher(line);
            Matcher call = CALL.matcher(line);
            if (typed.matches()) {
                for (char c : typed.group(1).toCharArray()) x.type(c);
            } else if (call.matches()) {
                calls++;
                int got = answer(x, call.group(1), call.group(2));
                if (got != number(call.group(3))) fail(line + " (it answered " + got + ")");
            } else if (!line.equals("HungMargins x = new HungMargins();")) {
                fail("not understood: " + line);
            }
        }
        if (calls < 10) fail("the example has only " + calls + " calls");
    }

    private static int answer(HungMargins x, String name, String told) throws Exception {
        List<String> parts = told.isEmpty() ? List.of() : List.of(told.split(", "));
        Class<?>[] types = new Class<?>[parts.size()];
        Object[] numbers = new Object[parts.size()];
        for (int i = 0; i < numbers.length; i++) {
            types[i] = int.class;
            numbers[i] = number(parts.get(i));
        }
        return (int) HungMargins.class.getMethod(name, types).invoke(x, numbers);
    }

    private static int number(String told) throws Exception {
        if (told.startsWith("'")) return told.charAt(1);
        if (Character.isUpperCase(told.charAt(0))) return HungMargins.class.getField(told).getInt(null);
        return Integer.parseInt(told);
    }

    private static void namesEachCall(String readme) {
        for (Method m : HungMargins.class.getDeclaredMethods()) {
            boolean named = Pattern.compile("`" + m.getName() + "\\([^`]*\\)`").matcher(readme).find();
            if (Modifier.isPublic(m.getModifiers()) && !named) fail("README.md does not name " + m.getName());
        }
    }

    private static void namesEachTest(String readme) throws Exception {
        if (!readme.contains("`.ci/run`")) fail("README.md does not name .ci/run");
        try (Stream<Path> tests = Files.list(Path.of("src/test/java"))) {
            for (Path test : tests.sorted().toList()) {
                String name = test.getFileName().toString().replace(".java", "");
                if (!readme.contains("`" + name + "`")) fail("README.md does not name " + name);
            }
        }
    }
}
