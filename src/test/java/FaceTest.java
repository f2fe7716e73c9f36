import java.lang.reflect.Constructor;
import java.lang.reflect.Field;
import java.lang.reflect.Method;
import java.lang.reflect.Modifier;
import java.nio.file.Files;
import java.nio.file.Path;
import java.util.Arrays;
import java.util.Set;
import java.util.TreeSet;
import java.util.regex.Matcher;
import java.util.regex.Pattern;

/** The public face, the language rules that can be seen from outside, and promise 1: a new object. */
public final class FaceTest {
    private static final String[] FACE = {"feed(int,int)int", "end()int", "reset()void", "fault()int",
        "units()int", "shown()int", "order(int)int", "sample(int)int", "held()int", "heldState(int)int",
        "heldSample(int,int)int", "vector(int)int", "smoothed()int", "draw(int,int)boolean",
        "write(int,int,int)int", "written(int)int", "pass()int"};

    public static void main(String[] args) throws Exception {
        publicMembers();
        membersInside();
        wordsOfTheSource();
        methodsAreShort();
        newObject();
        Check.due("NONE", BlockPictures.NONE, -1);
        Check.finish();
    }

    private static void publicMembers() {
        Set<String> found = new TreeSet<>();
        for (Method method : BlockPictures.class.getDeclaredMethods()) {
            if (Modifier.isPublic(method.getModifiers())) {
                StringBuilder text = new StringBuilder(method.getName()).append('(');
                for (Class<?> type : method.getParameterTypes()) {
                    text.append(text.charAt(text.length() - 1) == '(' ? "" : ",").append(type.getName());
                }
                found.add(text.append(')').append(method.getReturnType().getName()).toString());
            } else {
                Check.due(method + " is private", Modifier.isPrivate(method.getModifiers()), true);
                Check.due(method + " bears a public name", publicNames().contains(method.getName()), false);
            }
        }
        Check.due("methods " + found, found.equals(new TreeSet<>(Arrays.asList(FACE))), true);
        Constructor<?>[] made = BlockPictures.class.getDeclaredConstructors();
        Check.due("constructors", made.length, 1);
        Check.due("the constructor is public", Modifier.isPublic(made[0].getModifiers()), true);
        Check.due("its parameters", made[0].getParameterCount(), 0);
        Check.due("the class is public and final",
            BlockPictures.class.getModifiers() & (Modifier.PUBLIC | Modifier.FINAL), Modifier.PUBLIC | Modifier.FINAL);
        for (Field field : BlockPictures.class.getDeclaredFields()) {
            Check.due(field + " is private unless NONE",
                Modifier.isPrivate(field.getModifiers()) != field.getName().equals("NONE"), true);
        }
    }

    private static Set<String> publicNames() {
        Set<String> names = new TreeSet<>();
        for (String line : FACE) {
            names.add(line.substring(0, line.indexOf('(')));
        }
        return names;
    }

    private static void membersInside() {
        Set<String> names = publicNames();
        Class<?>[] inside = BlockPictures.class.getDeclaredClasses();
        Check.due("twelve classes at the most", inside.length < 12, true);
        for (Class<?> type : inside) {
            Check.due(type + " is static", Modifier.isStatic(type.getModifiers()), true);
            int own = 0;
            for (Field field : type.getDeclaredFields()) {
                boolean isStatic = Modifier.isStatic(field.getModifiers());
                Check.due(field + " is final if static", !isStatic || Modifier.isFinal(field.getModifiers()), true);
                own += isStatic ? 0 : 1;
            }
            Check.due(type + " has twenty fields at the most", own <= 20, true);
            for (Method method : type.getDeclaredMethods()) {
                Check.due(method + " bears a public name", names.contains(method.getName()), false);
                Check.due(method + " has seven parameters at the most", method.getParameterCount() <= 7, true);
            }
        }
    }

    private static void wordsOfTheSource() throws Exception {
        String source = Files.readString(Path.of("src/main/java/BlockPictures.java"))
            .replaceAll("(?s)/\\*.*?\\*/", "").replaceAll("//.*", "");
        for (String word : new String[] {"\\bthrow", "\\btry\\b", "\\bcatch\\b", "\\bassert\\b", "->", "::",
            "\\bsynchronized\\b", "\\bnull\\b", "\\bpackage\\b", "\"", "Exact\\b", "\\bprotected\\b"}) {
            Check.due("the source has " + word, Pattern.compile(word).matcher(source).find(), false);
        }
    }

    /** A method begins with a line that opens a body and ends with the next brace under its first letter. */
    private static void methodsAreShort() throws Exception {
        Pattern opening = Pattern.compile("( {4}| {8})[A-Za-z][^=;]*\\([^;]*\\) \\{");
        String indent = "";
        int length = 0;
        int methods = 0;
        for (String line : Files.readAllLines(Path.of("src/main/java/BlockPictures.java"))) {
            Matcher start = opening.matcher(line);
            if (indent.isEmpty() && start.matches()) {
                indent = start.group(1);
                length = 0;
                methods++;
            }
            length++;
            if (!indent.isEmpty() && line.equals(indent + "}")) {
                Check.due("a method has " + length + " lines, sixty at the most", length <= 60, true);
                indent = "";
            }
        }
        Check.due("methods were found", methods > 50, true);
    }

    private static void newObject() {
        BlockPictures x = new BlockPictures();
        Check.due("new fault()", x.fault(), 0);
        Check.due("new units()", x.units(), 0);
        Check.due("new shown()", x.shown(), 0);
        Check.due("new order(0)", x.order(0), -1);
        Check.due("new sample(0)", x.sample(0), -1);
        Check.due("new held()", x.held(), 0);
        Check.due("new heldState(0)", x.heldState(0), -1);
        Check.due("new heldSample(0, 0)", x.heldSample(0, 0), -1);
        Check.due("new smoothed()", x.smoothed(), 0);
        Check.due("new written(0)", x.written(0), -1);
        Check.due("new pass()", x.pass(), 0);
        for (int n = -1; n <= 16; n++) {
            Check.due("new vector(" + n + ")", x.vector(n), -1);
        }
        // Outside, with no zeros counted: a byte 1 begins no unit.
        UnitBits.feed(x, 1, 8, 0, 1, 8);
        Check.due("new end()", x.end(), 0);
        Check.due("no unit came", x.units(), 0);
        // The samples of the source are 0, and there are no parameters.
        x.write(5, 7, 0);
        x.pass();
        x.end();
        Check.due("a key picture needs parameters", x.fault(), 7);
        x.reset();
        x.write(7, 0, 0);
        x.pass();
        x.write(5, 7, 0);
        x.pass();
        Check.due("the source is shown", x.end(), 1);
        for (int i = 0; i < 256; i++) {
            Check.due("sample(" + i + ") of the new source", x.sample(i), 0);
        }
    }
}
