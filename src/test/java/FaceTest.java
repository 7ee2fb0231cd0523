import java.lang.reflect.Constructor;
import java.lang.reflect.Field;
import java.lang.reflect.Method;
import java.lang.reflect.Modifier;
import java.nio.file.Files;
import java.nio.file.Path;
import java.util.Arrays;
import java.util.Set;
import java.util.TreeSet;
import java.util.regex.Matcher;
import java.util.regex.Pattern;

/** The public face, whole and no more, and those rules of LANGUAGE.md that can be seen in the text. */
public final class FaceTest {
    private static final String SOURCE = "src/main/java/GoodsDownhill.java";

    private static final String[] FACE = {
        "feed 1", "mountain 0", "house 2", "store 2", "price 2", "law 1", "lawful 2", "sale 3", "week 0", "mule 3",
        "owe 3", "strike 0", "behind 2", "served 2", "drift 1", "stuck 0", "most 1", "cellar 3", "paths 3", "owed 1",
        "rings 1", "votes 2", "row 1", "judge 0", "seeds 2", "image 0", "restore 0", "count 1"};

    private static final String[] FORBIDDEN = {
        "\\bthrows?\\b", "\\btry\\b", "\\bcatch\\b", "\\bfinally\\b", "\\bsynchronized\\b", "\\bassert\\b",
        "\\bimport\\b", "\\bpackage\\b", "\\bprotected\\b", "@", "\\bhashCode\\b", "Exact\\b", "\\bObject\\b",
        "Exception", "Error", "\\bSystem\\.(?!arraycopy)", "\\bMath\\.(?!max|min)", "->", "::", "\""};

    public static void main(String[] args) throws Exception {
        methods();
        otherMembers();
        innerClasses();
        String code = withoutComments(Files.readString(Path.of(SOURCE)));
        for (String word : FORBIDDEN) {
            Matcher m = Pattern.compile(word).matcher(code);
            Due.holds("no \"" + word + "\" in " + SOURCE, !m.find());
        }
        Due.end("FaceTest");
    }

    private static void methods() {
        Set<String> want = new TreeSet<>(Arrays.asList(FACE));
        Set<String> got = new TreeSet<>();
        Set<String> publicNames = new TreeSet<>();
        for (String member : FACE) {
            publicNames.add(member.split(" ")[0]);
        }
        for (Method m : GoodsDownhill.class.getDeclaredMethods()) {
            if (m.isSynthetic()) {
                continue;
            }
            if (Modifier.isPublic(m.getModifiers())) {
                got.add(m.getName() + " " + m.getParameterCount());
                Due.holds(m.getName() + " answers an int", m.getReturnType() == int.class);
                for (Class<?> type : m.getParameterTypes()) {
                    Due.holds(m.getName() + " takes ints", type == int.class);
                }
            } else {
                Due.holds(m.getName() + " is private", Modifier.isPrivate(m.getModifiers()));
                Due.holds(m.getName() + " bears no public name", !publicNames.contains(m.getName()));
            }
        }
        Due.holds("the public methods are " + want + ", not " + got, want.equals(got));
    }

    private static void otherMembers() {
        int modifiers = GoodsDownhill.class.getModifiers();
        Due.holds("the class is public", Modifier.isPublic(modifiers));
        Due.holds("the class is final", Modifier.isFinal(modifiers));
        Constructor<?>[] constructors = GoodsDownhill.class.getDeclaredConstructors();
        Due.due("constructors", constructors.length, 1);
        Due.due("the constructor's parameters", constructors[0].getParameterCount(), 0);
        for (Field f : GoodsDownhill.class.getDeclaredFields()) {
            Due.holds(f.getName() + " is private", Modifier.isPrivate(f.getModifiers()));
            Due.holds(f.getName() + " is no static that changes",
                !Modifier.isStatic(f.getModifiers()) || Modifier.isFinal(f.getModifiers()));
        }
    }

    private static void innerClasses() {
        Class<?>[] inside = GoodsDownhill.class.getDeclaredClasses();
        Due.holds("at most twelve classes in the file", inside.length + 1 <= 12);
        for (Class<?> c : inside) {
            Due.holds(c.getName() + " is static", Modifier.isStatic(c.getModifiers()));
            Due.holds(c.getName() + " is not public", !Modifier.isPublic(c.getModifiers()));
            Due.holds(c.getName() + " has some twenty fields", c.getDeclaredFields().length <= 20);
            for (Method m : c.getDeclaredMethods()) {
                Due.holds(m.getName() + " takes seven at most", m.getParameterCount() <= 7);
            }
        }
    }

    private static String withoutComments(String source) {
        return source.replaceAll("(?s)/\\*.*?\\*/", "").replaceAll("//[^\n]*", "");
    }
}
