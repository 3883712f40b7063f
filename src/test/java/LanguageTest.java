import java.lang.reflect.Constructor;
import java.lang.reflect.Field;
import java.lang.reflect.Method;
import java.lang.reflect.Modifier;
import java.nio.charset.StandardCharsets;
import java.nio.file.Files;
import java.nio.file.Path;
import java.util.Arrays;
import java.util.HashSet;
import java.util.List;
import java.util.Set;
import java.util.TreeSet;
import java.util.regex.Matcher;
import java.util.regex.Pattern;

/** The face as the document declares it, and what of LANGUAGE.md can be looked up. */
public final class LanguageTest {
    private static final Due due = new Due();

    private static final String[] FACE = {
        "public int MarkingHall.arc(int,int,int,int) throws IndexOutOfBoundsException,IllegalArgumentException",
        "public int MarkingHall.blank()",
        "public boolean MarkingHall.can(int) throws IndexOutOfBoundsException",
        "public int MarkingHall.cost()",
        "public int MarkingHall.fire(int) throws IndexOutOfBoundsException,IllegalStateException",
        "public int MarkingHall.firing() throws IllegalStateException",
        "public int MarkingHall.goes()",
        "public int MarkingHall.graph(int) throws IllegalArgumentException",
        "public boolean MarkingHall.isPromising()",
        "public boolean MarkingHall.keeps()",
        "public int MarkingHall.level(int) throws IndexOutOfBoundsException",
        "public int MarkingHall.log(int) throws IndexOutOfBoundsException,IllegalStateException",
        "public int MarkingHall.marking(int,int) throws IndexOutOfBoundsException,IllegalArgumentException",
        "public int MarkingHall.most(int) throws IndexOutOfBoundsException",
        "public int MarkingHall.mostByRows(int) throws IndexOutOfBoundsException",
        "public int MarkingHall.place(int) throws IllegalArgumentException,IllegalStateException",
        "public int MarkingHall.round(int,int) throws IndexOutOfBoundsException",
        "public int MarkingHall.rounds()",
        "public int MarkingHall.row(int,int) throws IndexOutOfBoundsException",
        "public int MarkingHall.rows()",
        "public int MarkingHall.siphon(int) throws IndexOutOfBoundsException",
        "public int MarkingHall.siphons()",
        "public int MarkingHall.step(int,int,int) throws IndexOutOfBoundsException,IllegalArgumentException",
        "public int MarkingHall.tokens(int) throws IndexOutOfBoundsException",
        "public int MarkingHall.trap(int) throws IllegalArgumentException",
        "public int MarkingHall.way(int,int) throws IndexOutOfBoundsException,IllegalArgumentException",
    };

    private static final String[] CONSTANTS = {"NONE=-1", "TAKE=0", "GIVE=1", "TEST=2", "HOLD=3", "EMPTY=4"};

    /** Signs of what the rules leave out, as patterns. */
    private static final String[] BARRED = {
        "->", "::", "\\bfinally\\b", "\\bsynchronized\\b", "\\bassert\\b", "\\bstatic \\{", "Exact\\b",
        "\"\\s*\\+", "\\+\\s*\"", "\\bpackage\\b", "\\bhashCode\\b", "\\bRandom\\b", "\\brandom\\b",
        "\\bThread\\b", "\\bgetMessage\\b", "System\\.(?!arraycopy\\b)",
        "import (?!java\\.util\\.(Arrays|ArrayList|List|Iterator|NoSuchElementException);)",
        "Arrays\\.(?!fill\\b|copyOf\\b|copyOfRange\\b)", "Math\\.(?!max\\b|min\\b|abs\\b|floorDiv\\b|floorMod\\b)",
        "catch \\((?!(IllegalState|IllegalArgument|UnsupportedOperation|NoSuchElement)Exception\\b)", "[^\\x00-\\x7e]",
    };

    public static void main(String[] args) throws Exception {
        face();
        innerClasses();
        staticFields();
        if (args.length > 0) {
            String text = Files.readString(Path.of(args[0]), StandardCharsets.UTF_8);
            barredSigns(text);
            methodsStayShort(text.split("\n"));
        } else {
            due.is("the source is told as an argument", true, false);
        }
        due.end();
    }

    private static void face() throws Exception {
        Class<?> hall = MarkingHall.class;
        due.is("the class", "public final", Modifier.toString(hall.getModifiers()));
        Set<String> methods = new TreeSet<>();
        for (Method method : hall.getDeclaredMethods()) {
            if (!Modifier.isPrivate(method.getModifiers())) {
                methods.add(method.toString().replace("java.lang.", ""));
            }
        }
        due.is("the methods", new TreeSet<>(Arrays.asList(FACE)), methods);
        for (Constructor<?> constructor : hall.getDeclaredConstructors()) {
            due.is("the constructor", "public MarkingHall()", constructor.toString());
        }
        due.is("one constructor", 1, hall.getDeclaredConstructors().length);
        Set<String> constants = new HashSet<>();
        for (Field field : hall.getDeclaredFields()) {
            if (!Modifier.isPrivate(field.getModifiers())) {
                due.is(field.getName(), "public static final", Modifier.toString(field.getModifiers()));
                constants.add(field.getName() + "=" + field.getInt(null));
            }
        }
        due.is("the constants", new HashSet<>(List.of(CONSTANTS)), constants);
    }

    private static void innerClasses() {
        Set<String> publicNames = new HashSet<>();
        for (String method : FACE) {
            publicNames.add(method.replaceAll(".*MarkingHall\\.(\\w+)\\(.*", "$1"));
        }
        Class<?>[] inner = MarkingHall.class.getDeclaredClasses();
        due.is("some twelve classes", true, inner.length <= 12);
        noNameTwice(MarkingHall.class, publicNames);
        fewFields(MarkingHall.class);
        for (Class<?> one : inner) {
            int modifiers = one.getModifiers();
            due.is(one.getName() + " is public or protected", 0, modifiers & (Modifier.PUBLIC | Modifier.PROTECTED));
            due.is(one.getName() + " is static", true, Modifier.isStatic(modifiers));
            noNameTwice(one, publicNames);
            fewFields(one);
        }
    }

    private static void noNameTwice(Class<?> one, Set<String> publicNames) {
        for (Method method : one.getDeclaredMethods()) {
            if (Modifier.isPrivate(method.getModifiers())) {
                due.is("private " + method.getName() + " bears a public name", false,
                    publicNames.contains(method.getName()));
            }
            due.is(method.getName() + " has at most seven parameters", true, method.getParameterCount() <= 7);
        }
    }

    private static void fewFields(Class<?> one) {
        int fields = 0;
        for (Field field : one.getDeclaredFields()) {
            fields += Modifier.isStatic(field.getModifiers()) ? 0 : 1;
        }
        due.is(one.getName() + " has some twenty fields", true, fields <= 22);
    }

    private static void staticFields() {
        for (Class<?> one : MarkingHall.class.getDeclaredClasses()) {
            for (Field field : one.getDeclaredFields()) {
                if (Modifier.isStatic(field.getModifiers())) {
                    due.is(field + " is final", true, Modifier.isFinal(field.getModifiers()));
                }
            }
        }
    }

    private static void barredSigns(String text) {
        String code = text.replaceAll("(?s)/\\*.*?\\*/", "").replaceAll("//[^\n]*", "");
        for (String sign : BARRED) {
            Matcher found = Pattern.compile(sign).matcher(code);
            due.is("the code has " + sign, "", found.find() ? found.group() : "");
        }
    }

    /** A method begins with a line that ends with an opening brace, and ends with one of the same depth. */
    private static void methodsStayShort(String[] lines) {
        for (int i = 0; i < lines.length; i++) {
            Matcher head = Pattern.compile("^( {4}| {8})(public|private) .*\\(.*").matcher(lines[i]);
            if (head.matches() && !lines[i].endsWith(";")) {
                int end = i;
                while (end < lines.length && !lines[end].equals(head.group(1) + "}")) {
                    end++;
                }
                due.is(lines[i].trim() + " has some sixty lines", true, end - i <= 65);
            }
        }
    }
}
