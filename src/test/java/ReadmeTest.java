import java.io.IOException;
import java.lang.reflect.Method;
import java.lang.reflect.Modifier;
import java.nio.file.Files;
import java.nio.file.Path;
import java.util.List;
import java.util.regex.Matcher;
import java.util.regex.Pattern;
import java.util.stream.Stream;

/** That README.md is right: its example answers as it says, and it names every call and every test. */
final class ReadmeTest {
    private static final Pattern TYPED = Pattern.compile("for \\(char b : \"(.*)\"\\.toCharArray\\(\\)\\) \\{");
    private static final Pattern TYPES = Pattern.compile(" +x\\.type\\((\\d), b\\);.*");
    private static final Pattern CALL = Pattern.compile("x\\.(\\w+)\\((.*)\\); +// (-?\\d+): .*");

    private final Check check = new Check("ReadmeTest");
    private final String page;

    private ReadmeTest(String page) {
        this.page = page;
    }

    public static void main(String[] args) throws Exception {
        ReadmeTest test = new ReadmeTest(Files.readString(Path.of("README.md")));
        test.example();
        test.everyCall();
        test.everyTest();
        test.check.end();
    }

    private void example() throws ReflectiveOperationException {
        String block = page.substring(page.indexOf("```java\n") + 8, page.lastIndexOf("```"));
        List<String> lines = block.lines().toList();
        check.due("first line: " + lines.get(0), lines.get(0).equals("WalkingTown x = new WalkingTown();") ? 1 : 0, 1);
        WalkingTown x = new WalkingTown();
        String typed = "";
        for (String line : lines.subList(1, lines.size())) {
            Matcher text = TYPED.matcher(line);
            Matcher type = TYPES.matcher(line);
            Matcher call = CALL.matcher(line);
            if (text.matches()) {
                typed = text.group(1);
            } else if (type.matches()) {
                for (int i = 0; i < typed.length(); i++) {
                    x.type(Integer.parseInt(type.group(1)), typed.charAt(i));
                }
            } else if (call.matches()) {
                check.due(line, answer(x, call.group(1), call.group(2)), Long.parseLong(call.group(3)));
            } else {
                check.due("a line that is no call: " + line, line.equals("}") ? 1 : 0, 1);
            }
        }
    }

    private static long answer(WalkingTown x, String name, String numbers) throws ReflectiveOperationException {
        Object[] arguments = Stream.of(numbers.split(", ")).map(Integer::valueOf).toArray();
        Class<?>[] types = Stream.of(arguments).map(a -> int.class).toArray(Class<?>[]::new);
        return ((Number) WalkingTown.class.getMethod(name, types).invoke(x, arguments)).longValue();
    }

    private void everyCall() {
        for (Method method : WalkingTown.class.getDeclaredMethods()) {
            if (Modifier.isPublic(method.getModifiers())) {
                Matcher row = Pattern.compile("\\| `" + method.getName() + "\\((.*?)\\)` \\|").matcher(page);
                boolean isTold = row.find();
                check.due("a row for " + method.getName(), isTold ? 1 : 0, 1);
                String told = isTold ? row.group(1) : "";
                int many = told.isEmpty() ? 0 : told.split(", ").length;
                check.due("what " + method.getName() + " takes", many, method.getParameterCount());
            }
        }
    }

    private void everyTest() throws IOException {
        try (Stream<Path> files = Files.list(Path.of("src/test/java"))) {
            for (Path file : files.toList()) {
                String name = file.getFileName().toString().replace(".java", "");
                boolean isTold = !name.endsWith("Test") || page.contains("| `" + name + "` |");
                check.due("a row for " + name, isTold ? 1 : 0, 1);
            }
        }
    }
}
