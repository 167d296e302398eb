import java.lang.management.ManagementFactory;
import java.lang.reflect.Constructor;
import java.lang.reflect.Field;
import java.lang.reflect.Method;
import java.lang.reflect.Modifier;
import java.nio.file.Files;
import java.nio.file.Path;
import java.util.ArrayList;
import java.util.Arrays;
import java.util.List;
import java.util.TreeSet;
import java.util.regex.Matcher;
import java.util.regex.Pattern;

/** The public face, the rules of LANGUAGE.md that can be seen from outside, the room, and any arguments at all. */
final class FaceTest {
    private static final String[] FACE = {
        "int wind/2", "int read/1", "int set/2", "int foot/1", "int type/2", "int wipe/1", "int fault/1",
        "int house/2", "int takes/2", "int judged/1", "int ends/1", "int queue/2", "int needs/1", "int fewest/1",
        "int turn/2", "int owed/2", "int broken/2", "int well/2", "int met/1", "int dry/1", "int sold/3",
        "int debt/3", "int owes/2", "int lost/1", "int church/3", "long likely/4", "int stone/5", "int sheet/3",
        "int lose/1", "int put/4", "int get/3", "int copy/5", "int write/2", "int count/1", "long digest/0"};
    private static final String[] FORBIDDEN = {
        "\\bthrow\\b", "\\btry\\b", "\\bcatch\\b", "\\bsynchronized\\b", "\\bassert\\b", "->", "::", "\\w+Exact\\b",
        "\\bprotected\\b", "\\bstatic\\s*\\{", "\\bpackage\\b", "\\bhashCode\\b", "\\btoString\\b", "\\bequals\\b",
        "\\bSystem\\.(?!arraycopy)", "\\bimport (?!java\\.util\\.Arrays;)"};

    private final Check check = new Check("FaceTest");

    public static void main(String[] args) throws Exception {
        FaceTest test = new FaceTest();
        test.members();
        test.constants();
        test.nestedClasses();
        test.source();
        test.wildArguments();
        test.room();
        test.check.end();
    }

    private void members() {
        TreeSet<String> due = new TreeSet<>(Arrays.asList(FACE));
        TreeSet<String> names = new TreeSet<>();
        for (Method method : WalkingTown.class.getDeclaredMethods()) {
            boolean isPrivate = Modifier.isPrivate(method.getModifiers());
            String told = method.getReturnType() + " " + method.getName() + "/" + method.getParameterCount();
            check.due("public or private: " + told, isPrivate ? 0 : 1, due.contains(told) ? 1 : 0);
            check.due("a name once: " + method.getName(), names.add(method.getName()) ? 1 : 0, 1);
            due.remove(told);
        }
        check.due("methods that are missing: " + due, due.size(), 0);
        Constructor<?>[] made = WalkingTown.class.getDeclaredConstructors();
        check.due("constructors", made.length, 1);
        check.due("its parameters", made[0].getParameterCount(), 0);
        check.due("it is public", Modifier.isPublic(made[0].getModifiers()) ? 1 : 0, 1);
        int modifiers = WalkingTown.class.getModifiers();
        check.due("public and final", Modifier.isPublic(modifiers) && Modifier.isFinal(modifiers) ? 1 : 0, 1);
    }

    private void constants() {
        int seen = 0;
        for (Field field : WalkingTown.class.getDeclaredFields()) {
            int modifiers = field.getModifiers();
            if (!Modifier.isPrivate(modifiers)) {
                seen++;
                boolean isDue = Modifier.isPublic(modifiers) && "NONE BAD NOT FULL".contains(field.getName());
                check.due("a public constant: " + field.getName(), isDue ? 1 : 0, 1);
            }
            check.due("static is final: " + field.getName(),
                    Modifier.isStatic(modifiers) && !Modifier.isFinal(modifiers) ? 1 : 0, 0);
        }
        check.due("public constants", seen, 4);
        check.due("NONE", WalkingTown.NONE, -1);
        check.due("BAD", WalkingTown.BAD, -2);
        check.due("NOT", WalkingTown.NOT, -3);
        check.due("FULL", WalkingTown.FULL, -4);
    }

    private void nestedClasses() {
        for (Class<?> nested : WalkingTown.class.getDeclaredClasses()) {
            int modifiers = nested.getModifiers();
            boolean isHidden = !Modifier.isPublic(modifiers) && !Modifier.isProtected(modifiers);
            check.due("static and hidden: " + nested, isHidden && Modifier.isStatic(modifiers) ? 1 : 0, 1);
            check.due("not too many fields: " + nested, nested.getDeclaredFields().length > 20 ? 1 : 0, 0);
        }
        check.due("some twelve classes at most", WalkingTown.class.getDeclaredClasses().length > 11 ? 1 : 0, 0);
    }

    private void source() throws Exception {
        String text = Files.readString(Path.of("src/main/java/WalkingTown.java"));
        String code = text.replaceAll("(?s)/\\*.*?\\*/", "").replaceAll("//[^\n]*", "");
        for (String word : FORBIDDEN) {
            check.due("found in the source: " + word, Pattern.compile(word).matcher(code).results().count(), 0);
        }
        check.due("signs beyond 127", text.chars().filter(c -> c > 127).count(), 0);
        int open = 0;
        int lines = 0;
        for (String line : code.split("\n")) {
            lines = line.matches(" {4,8}(?!.*class)\\S.*\\) \\{") ? 0 : lines + 1;
            open = Math.max(open, line.matches(" {4,8}\\}") ? lines : 0);
        }
        check.due("the longest method is some sixty lines at most", open > 60 ? open : 0, 0);
        List<String> made = new ArrayList<>();
        for (String line : code.split("\n")) {
            boolean isField = line.matches(" +private final .*= new .*;") || line.matches(" +(columns|rows|amounts) = new .*;");
            boolean isSheet = line.trim().equals("sheets[s] = new Sheet();");
            if (line.contains("new ") && !isField && !isSheet) {
                made.add(line.trim());
            }
        }
        check.due("made outside constructors: " + made, made.size(), 0);
        Matcher constructor = Pattern.compile("(?s)public WalkingTown\\(\\) \\{(.*?)\n    \\}").matcher(code);
        check.due("the constructor is found", constructor.find() ? 1 : 0, 1);
        check.due("the constructor hands out nothing: it calls no method",
                Pattern.compile("(?<!new )\\b(?!for\\b)\\w+\\(").matcher(constructor.group(1)).results().count(), 0);
    }

    private static Object[] arguments(int many, int[] wild, int number) {
        Object[] arguments = new Object[many];
        int rest = number;
        for (int i = 0; i < many; i++) {
            arguments[i] = wild[rest % wild.length];
            rest /= wild.length;
        }
        return arguments;
    }

    /** All rows of arguments of a few edges, in some states; what is thrown ends the test. */
    private void wildArguments() throws Exception {
        int[] wild = {Integer.MIN_VALUE, -1, 0, 3, 60, Integer.MAX_VALUE};
        String[] towns = {"", "x", "s000", "s099;t000;c150", "s000;t001;s002;s003;s004;s005;s006;s007;s008;r309"};
        int asked = 0;
        for (String town : towns) {
            for (Method method : WalkingTown.class.getDeclaredMethods()) {
                if (Modifier.isPublic(method.getModifiers())) {
                    int many = method.getParameterCount();
                    int rows = (int) Math.round(Math.pow(wild.length, many));
                    WalkingTown x = Check.townOf(town);
                    x.set(0, 50);
                    x.sheet(1, 0, 3);
                    for (int number = 0; number < rows; number++) {
                        method.invoke(x, arguments(many, wild, number));
                        asked++;
                    }
                }
            }
        }
        check.due("calls that ended", asked > 40000 ? 1 : 0, 1);
    }

    private void room() {
        com.sun.management.ThreadMXBean thread =
                (com.sun.management.ThreadMXBean) ManagementFactory.getThreadMXBean();
        WalkingTown x = Check.townOf("t000;t100;t200;t300;c001");
        x.set(0, 90);
        long before = thread.getCurrentThreadAllocatedBytes();
        for (int n = 0; n < 512; n++) {
            x.digest();
            x.type(1, '0');
            x.sheet(n % 4, n % 3, n % 60);
            x.write(40, n % 4);
            x.likely(9, 50, 9, 0);
        }
        long calls = thread.getCurrentThreadAllocatedBytes() - before;
        check.due("bytes that calls took: " + calls, calls > 4096 ? 1 : 0, 0);
        before = thread.getCurrentThreadAllocatedBytes();
        x = new WalkingTown();
        long one = thread.getCurrentThreadAllocatedBytes() - before;
        check.due("bytes that an object took: " + one, one > 32768 ? 1 : 0, 0);
        check.due("count(7)", x.count(7), 9);
    }
}
