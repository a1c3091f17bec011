import java.lang.reflect.Constructor;
import java.lang.reflect.Field;
import java.lang.reflect.Method;
import java.lang.reflect.Modifier;
import java.util.Set;
import java.util.TreeSet;

/** The public face: each member of the document with its exceptions, and no other that can be seen from outside. */
public final class FaceTest {
    private static final String[] FACE = {
        "public PatternMatcher()",
        "public boolean PatternMatcher.type(int,char)",
        "public boolean PatternMatcher.clear(int)",
        "public int PatternMatcher.compile() throws java.lang.IllegalArgumentException",
        "public boolean PatternMatcher.matches() throws java.lang.IllegalStateException",
        "public boolean PatternMatcher.looking() throws java.lang.IllegalStateException",
        "public int PatternMatcher.find(int) throws java.lang.IndexOutOfBoundsException,java.lang.IllegalStateException",
        "public int PatternMatcher.start(int) throws java.lang.IllegalStateException,java.lang.IndexOutOfBoundsException",
        "public int PatternMatcher.end(int) throws java.lang.IllegalStateException,java.lang.IndexOutOfBoundsException",
        "public int PatternMatcher.replace() throws java.lang.IllegalStateException,java.lang.IllegalArgumentException,"
            + "java.lang.IndexOutOfBoundsException",
        "public char PatternMatcher.replaced(int) throws java.lang.IndexOutOfBoundsException",
        "public int PatternMatcher.split() throws java.lang.IllegalStateException",
        "public int PatternMatcher.piece(int,int) throws java.lang.IndexOutOfBoundsException",
        "public int PatternMatcher.length(int)",
    };

    public static void main(String[] args) {
        Set<String> seen = new TreeSet<>();
        Set<String> names = new TreeSet<>();
        for (Constructor<?> constructor : PatternMatcher.class.getDeclaredConstructors()) {
            seen.add(constructor.toString());
        }
        for (Method method : PatternMatcher.class.getDeclaredMethods()) {
            if (!Modifier.isPrivate(method.getModifiers())) {
                seen.add(method.toString());
                names.add(method.getName());
            }
        }
        for (Field field : PatternMatcher.class.getDeclaredFields()) {
            Check.due(field + " is private", Modifier.isPrivate(field.getModifiers()), true);
        }
        Check.due("the face", seen, new TreeSet<>(Set.of(FACE)));
        Check.due("the class is public and final", PatternMatcher.class.getModifiers(), Modifier.PUBLIC | Modifier.FINAL);
        noNameTwice(PatternMatcher.class, names);
        for (Class<?> inside : PatternMatcher.class.getDeclaredClasses()) {
            Check.due(inside + " is static", Modifier.isStatic(inside.getModifiers()), true);
            int seenFromOutside = inside.getModifiers() & (Modifier.PUBLIC | Modifier.PROTECTED);
            Check.due(inside + " is private or package-visible", seenFromOutside, 0);
            noNameTwice(inside, names);
        }
        Check.done();
    }

    private static void noNameTwice(Class<?> where, Set<String> names) {
        for (Method method : where.getDeclaredMethods()) {
            if (Modifier.isPrivate(method.getModifiers()) || where != PatternMatcher.class) {
                Check.due(method + " bears a name of the face", names.contains(method.getName()), false);
            }
        }
    }
}
