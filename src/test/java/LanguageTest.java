import java.io.IOException;
import java.lang.reflect.Constructor;
import java.lang.reflect.Field;
import java.lang.reflect.Method;
import java.lang.reflect.Modifier;
import java.nio.file.Files;
import java.nio.file.Path;
import java.util.Arrays;
import java.util.Set;
import java.util.TreeSet;
import java.util.regex.Matcher;
import java.util.regex.Pattern;

/** The face of the document, its constants, and those rules of LANGUAGE.md that can be seen from outside. */
public final class LanguageTest {
    private static final Check CHECK = new Check("LanguageTest");
    private static final String[] FACE = {"setPrime(int)", "readModulus()", "setNumber(int,int,int)", "assign()",
        "put(int,int,int)", "part(int)", "partByDegrees()", "join(int,int)", "joinAlike(int)", "type(char)", "clearText()",
        "undo()", "keep()", "restore()", "modulus(int)", "number(int,int)", "branch(int,int)", "seen(int,int,int)",
        "kind(int,int)", "unit(int,int)", "power(int,int,int)", "leastPolynomial(int,int)", "trace(int)", "order(int)",
        "factors(int)", "count(int)"};
    private static final String FORBIDDEN = "\\b(throw|throws|try|catch|synchronized|assert|import|package|native|volatile"
        + "|transient|HashMap|Random|Thread|Object)\\b|->|::|System\\.[^a]|Exact\\(|\\.(hashCode|toString|getClass)\\(";

    public static void main(String[] args) throws IOException {
        constants();
        face();
        classesInside();
        source();
        CHECK.done();
    }

    private static void constants() {
        CHECK.due("UNKNOWN", SplitTowers.UNKNOWN, -1);
        CHECK.due("BAD_VALUE", SplitTowers.BAD_VALUE, -2);
        CHECK.due("FULL", SplitTowers.FULL, -3);
        CHECK.due("NOT_POSSIBLE", SplitTowers.NOT_POSSIBLE, -4);
        CHECK.due("NONE", SplitTowers.NONE, -5);
    }

    private static void face() {
        Class<?> face = SplitTowers.class;
        CHECK.that("the class is public and final", Modifier.isPublic(face.getModifiers()) && Modifier.isFinal(face.getModifiers()));
        Set<String> told = new TreeSet<>();
        Set<String> names = new TreeSet<>();
        for (Method method : face.getDeclaredMethods()) {
            if (!Modifier.isPrivate(method.getModifiers())) {
                CHECK.that(method + " is public and tells an int",
                    Modifier.isPublic(method.getModifiers()) && method.getReturnType() == int.class);
                told.add(signature(method));
                names.add(method.getName());
            }
        }
        CHECK.that("the methods are those of the document: " + told, told.equals(new TreeSet<>(Arrays.asList(FACE))));
        for (Method method : face.getDeclaredMethods()) {
            CHECK.that(method + " has no public one's name",
                !Modifier.isPrivate(method.getModifiers()) || !names.contains(method.getName()));
        }
        Constructor<?>[] constructors = face.getDeclaredConstructors();
        CHECK.that("one constructor", constructors.length == 1 && constructors[0].getParameterCount() == 0);
        int constants = 0;
        for (Field field : face.getDeclaredFields()) {
            boolean constant = Modifier.isPublic(field.getModifiers());
            constants += constant ? 1 : 0;
            CHECK.that(field + " is private or a constant", constant || Modifier.isPrivate(field.getModifiers()));
        }
        CHECK.due("the constants", constants, 5);
    }

    private static String signature(Method method) {
        StringBuilder text = new StringBuilder(method.getName()).append('(');
        for (Class<?> type : method.getParameterTypes()) {
            text.append(text.charAt(text.length() - 1) == '(' ? "" : ",").append(type.getName());
        }
        return text.append(')').toString();
    }

    private static void classesInside() {
        Class<?>[] inside = SplitTowers.class.getDeclaredClasses();
        CHECK.that("some twelve classes", inside.length < 12);
        for (Class<?> one : inside) {
            CHECK.that(one + " is static and not public",
                Modifier.isStatic(one.getModifiers()) && !Modifier.isPublic(one.getModifiers()));
            for (Field field : one.getDeclaredFields()) {
                CHECK.that(field + " is final if it is static",
                    !Modifier.isStatic(field.getModifiers()) || Modifier.isFinal(field.getModifiers()));
            }
            for (Method method : one.getDeclaredMethods()) {
                CHECK.that(method + " has at most seven parameters", method.getParameterCount() <= 7);
            }
        }
    }

    private static void source() throws IOException {
        String source = Files.readString(Path.of("src/main/java/SplitTowers.java"));
        CHECK.that("signs from 1 to 126", source.chars().allMatch(c -> c >= 1 && c <= 126));
        String code = source.replaceAll("(?s)/\\*.*?\\*/", "").replaceAll("//[^\n]*", "");
        Matcher found = Pattern.compile(FORBIDDEN).matcher(code);
        while (found.find()) {
            CHECK.that("the source does without " + found.group(), false);
        }
    }
}
