import java.io.IOException;
import java.lang.reflect.Constructor;
import java.lang.reflect.Executable;
import java.lang.reflect.Field;
import java.lang.reflect.Method;
import java.lang.reflect.Modifier;
import java.nio.file.Files;
import java.nio.file.Path;
import java.util.ArrayList;
import java.util.List;
import java.util.Set;
import java.util.TreeSet;
import java.util.regex.Matcher;
import java.util.regex.Pattern;

/** The rules of LANGUAGE.md, as far as the class and its source show whether they are kept. */
public final class LanguageTest {
    private static final Path SOURCE = Path.of("src/main/java/PatternMatcher.java");
    private static final int MOST_CLASSES = 12;
    private static final int MOST_FIELDS = 20;
    private static final int MOST_PARAMETERS = 7;
    private static final int MOST_LINES = 60;

    private static final Set<Class<?>> TYPES = Set.of(int.class, long.class, short.class, byte.class, char.class,
        boolean.class, void.class, String.class, StringBuilder.class);
    private static final Set<Class<?>> CONSTANTS = Set.of(int.class, long.class, boolean.class, char.class,
        String.class, int[].class, long[].class, char[].class, byte[].class);
    private static final Set<String> THROWN = Set.of("IllegalStateException", "IllegalArgumentException",
        "IndexOutOfBoundsException");
    // What these rules forbid, or what the program has no need of and the other tests here do not look into.
    private static final Set<String> FORBIDDEN = Set.of("import", "package", "try", "catch", "finally", "synchronized",
        "assert", "instanceof", "native", "volatile", "transient", "strictfp", "double", "float", "equals", "hashCode",
        "toString", "getClass", "getMessage", "var", "yield", "goto");

    private static final List<Class<?>> classes = new ArrayList<>();

    public static void main(String[] args) throws IOException {
        collect(PatternMatcher.class);
        Check.due("rule 11: classes are few", classes.size() <= MOST_CLASSES, true);
        for (Class<?> one : classes) {
            fields(one);
            methods(one);
        }
        String code = withoutCommentsAndTexts(Files.readString(SOURCE));
        words(code);
        exceptions(code);
        methodsAreShort(code);
        Check.done();
    }

    private static void collect(Class<?> one) {
        classes.add(one);
        for (Class<?> inside : one.getDeclaredClasses()) {
            collect(inside);
        }
    }

    private static boolean isAllowed(Class<?> type) {
        Class<?> element = type.isArray() ? type.getComponentType() : type;
        return TYPES.contains(element) || classes.contains(element);
    }

    private static void fields(Class<?> one) {
        int count = 0;
        for (Field field : one.getDeclaredFields()) {
            boolean fixed = Modifier.isStatic(field.getModifiers());
            count += fixed ? 0 : 1;
            Check.due("rule 3: type of " + field, isAllowed(field.getType()), true);
            if (fixed) {
                Check.due("rule 5: " + field + " is final", Modifier.isFinal(field.getModifiers()), true);
                Check.due("rule 5: type of " + field, CONSTANTS.contains(field.getType()), true);
            }
        }
        Check.due("rule 11: fields of " + one + " are few", count <= MOST_FIELDS, true);
    }

    private static void methods(Class<?> one) {
        for (Constructor<?> constructor : one.getDeclaredConstructors()) {
            parameters(constructor);
        }
        for (Method method : one.getDeclaredMethods()) {
            parameters(method);
            Check.due("rule 3: type of " + method, isAllowed(method.getReturnType()), true);
        }
    }

    private static void parameters(Executable method) {
        Check.due("rule 11: parameters of " + method, method.getParameterCount() <= MOST_PARAMETERS, true);
        for (Class<?> type : method.getParameterTypes()) {
            Check.due("rule 3: types of " + method, isAllowed(type), true);
        }
    }

    /** The source with spaces in the place of comments and of what stands in quotes, line by line as it was. */
    private static String withoutCommentsAndTexts(String source) {
        String token = "\"(?:[^\"\\\\\n]|\\\\.)*\"|'(?:[^'\\\\\n]|\\\\.)+'|//[^\n]*|/\\*(?s:.*?)\\*/";
        Matcher matcher = Pattern.compile(token).matcher(source);
        return matcher.replaceAll(found -> found.group().replaceAll("[^\n]", " "));
    }

    private static Set<String> found(String pattern, String code) {
        Set<String> found = new TreeSet<>();
        Matcher matcher = Pattern.compile(pattern).matcher(code);
        while (matcher.find()) {
            found.add(matcher.group());
        }
        return found;
    }

    private static void words(String code) {
        Set<String> words = found("\\b[A-Za-z_]\\w*", code);
        Check.due("the words of the class are seen", words.contains("PatternMatcher") && words.contains("int"), true);
        for (String word : words) {
            Check.due("rules 2 to 6, 13: the word " + word, FORBIDDEN.contains(word), false);
        }
        Set<String> types = found("\\b[A-Z][A-Za-z0-9]*[a-z]\\w*", code);
        for (Class<?> one : classes) {
            types.remove(one.getSimpleName());
        }
        types.removeAll(THROWN);
        Check.due("rule 4: other classes of the library", types, Set.of("String"));
        Check.due("rule 2: lambdas and method references", found("->|::", code), Set.of());
        Check.due("rule 5: static blocks", found("\\bstatic\\s*\\{", code), Set.of());
        Check.due("rule 4: what is asked of texts", found("\\bSPECIAL\\w*\\s*\\.\\s*\\w+", code),
            Set.of("SPECIAL.indexOf", "SPECIAL_ITEM.indexOf"));
    }

    private static void exceptions(String code) {
        Set<String> forms = new TreeSet<>();
        for (String thrown : THROWN) {
            forms.add("throw new " + thrown + "();");
        }
        Check.due("rule 6: what is thrown", found("\\bthrow\\b[^;]*;", code), forms);
    }

    /** A line at the depth of a member that ends with ) .. { begins a method; the same depth with } ends it. */
    private static void methodsAreShort(String code) {
        String[] lines = code.split("\n", -1);
        int begin = -1;
        int methods = 0;
        for (int i = 0; i < lines.length; i++) {
            if (lines[i].matches("(    ){1,2}(public |private |static |final )*(\\w+(\\[\\])* )?\\w+\\(.*\\{ *")) {
                begin = i;
                methods++;
            }
            if (begin >= 0 && lines[i].matches("(    ){1,2}\\} *")) {
                Check.due("rule 11: lines of " + lines[begin].trim(), i - begin < MOST_LINES, true);
                begin = -1;
            }
        }
        int there = 0;
        for (Class<?> one : classes) {
            there += one.getDeclaredMethods().length + one.getDeclaredConstructors().length;
        }
        Check.due("the methods that were seen", methods, there);
    }
}
