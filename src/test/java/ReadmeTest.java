import java.io.IOException;
import java.lang.reflect.Method;
import java.lang.reflect.Modifier;
import java.nio.file.Files;
import java.nio.file.Path;
import java.util.Set;
import java.util.TreeSet;
import java.util.regex.Matcher;
import java.util.regex.Pattern;
import java.util.stream.Collectors;
import java.util.stream.Stream;

/** What README.md says: the answers of its example, the calls, the classes inside, the tests and how they are run. */
public final class ReadmeTest {
    private static final Pattern CALL = Pattern.compile("x\\.(\\w+)\\((.*)\\); +// (.*)");
    private static final Pattern NAME_IN_A_TABLE = Pattern.compile("(?m)^\\| `(\\w+)(\\(.*?\\))?` \\|");

    private static final BlockPictures EXAMPLE = new BlockPictures();

    public static void main(String[] args) throws Exception {
        String text = Files.readString(Path.of("README.md"));
        example(text);
        tables(text);
        faults(text);
        running(text);
        Check.finish();
    }

    private static void example(String text) throws ReflectiveOperationException {
        Set<String> called = new TreeSet<>();
        Matcher call = CALL.matcher(text);
        while (call.find()) {
            String answer = String.valueOf(answer(call.group(1), call.group(2)));
            String said = answer.equals("null") ? "null" : call.group(3).replaceAll(":.*", "");
            Check.due(call.group() + " answers " + answer, answer.equals(said), true);
            called.add(call.group(1));
        }
        Check.due("every call stands in the example, not only " + called, called.equals(publicCalls()), true);
    }

    private static Object answer(String name, String list) throws ReflectiveOperationException {
        String[] parts = list.isEmpty() ? new String[0] : list.split(", ");
        Class<?>[] types = new Class<?>[parts.length];
        Object[] values = new Object[parts.length];
        for (int k = 0; k < parts.length; k++) {
            types[k] = int.class;
            values[k] = Integer.decode(parts[k]);
        }
        return BlockPictures.class.getMethod(name, types).invoke(EXAMPLE, values);
    }

    private static Set<String> publicCalls() {
        Set<String> names = new TreeSet<>();
        for (Method method : BlockPictures.class.getDeclaredMethods()) {
            if (Modifier.isPublic(method.getModifiers())) {
                names.add(method.getName());
            }
        }
        return names;
    }

    /** The tables name all calls, all classes inside and all files of the tests, and nothing else. */
    private static void tables(String text) throws IOException {
        Set<String> due = publicCalls();
        for (Class<?> inside : BlockPictures.class.getDeclaredClasses()) {
            due.add(inside.getSimpleName());
        }
        try (Stream<Path> files = Files.list(Path.of("src/test/java"))) {
            due.addAll(files.map(file -> file.getFileName().toString().replace(".java", "")).collect(Collectors.toSet()));
        }
        Set<String> named = new TreeSet<>();
        Matcher name = NAME_IN_A_TABLE.matcher(text);
        while (name.find()) {
            Check.due(name.group(1) + " stands in one table alone", named.add(name.group(1)), true);
        }
        Set<String> missing = new TreeSet<>(due);
        missing.removeAll(named);
        Check.due("not named: " + missing, missing.size(), 0);
        named.removeAll(due);
        Check.due("named and not there: " + named, named.size(), 0);
    }

    private static void faults(String text) {
        for (int fault = 1; fault <= 9; fault++) {
            Check.due("fault " + fault + " is told", text.contains("\n| " + fault + " | "), true);
        }
        Check.due("no other one", text.contains("\n| 0 | ") || text.contains("\n| 10 | "), false);
    }

    /** The commands are those of .ci/run, which takes each file by its name's end. */
    private static void running(String text) throws IOException {
        Path script = Path.of(".ci/run");
        Check.due(".ci/run can be run", Files.isExecutable(script), true);
        Check.due("README.md tells it", text.contains("\n    .ci/run\n"), true);
        String commands = Files.readString(script);
        for (String part : new String[] {"src/main/java/BlockPictures.java", "src/test/java", "../shared/tests"}) {
            Check.due("README.md names " + part, text.contains(part), true);
            Check.due(".ci/run names " + part, commands.contains(part), true);
        }
        Check.due(".ci/run takes the classes whose name ends in Test", commands.contains("/*Test.java"), true);
    }
}
