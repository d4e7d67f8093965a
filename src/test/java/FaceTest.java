import java.lang.reflect.Constructor;
import java.lang.reflect.Field;
import java.lang.reflect.Method;
import java.lang.reflect.Modifier;
import java.util.Set;
import java.util.TreeSet;

/** The members of the class are those of the document's face, and it keeps to LANGUAGE.md's rules 1 and 11. */
public final class FaceTest {
    private static final Set<String> FACE = new TreeSet<>(Set.of(
        "public static final int DOWN", "public static final int MALFORMED", "public PostingShelf()",
        "public long stem(long)", "public int feed(long)", "public int add(int)", "public int delete(int)",
        "public int commit()", "public int merge(int)", "public boolean fuse(int)", "public boolean restart()",
        "public int term(long)", "public int phrase(int)", "public int join(int)", "public int find()",
        "public int rank(int)", "public int result(int)", "public int weight(int)", "public int weighed()",
        "public int size(int)"));

    public static void main(String[] args) {
        Check check = new Check();
        Class<PostingShelf> type = PostingShelf.class;
        check.due("DOWN", PostingShelf.DOWN, -9);
        check.due("MALFORMED", PostingShelf.MALFORMED, -3);
        check.due("public and final", type.getModifiers(), Modifier.PUBLIC | Modifier.FINAL);

        Set<String> seen = new TreeSet<>();
        Set<String> publicNames = new TreeSet<>();
        for (Field field : type.getDeclaredFields()) {
            note(seen, field.getModifiers(), field.toString());
        }
        for (Constructor<?> constructor : type.getDeclaredConstructors()) {
            note(seen, constructor.getModifiers(), constructor.toString());
        }
        for (Method method : type.getDeclaredMethods()) {
            note(seen, method.getModifiers(), method.toString());
            if (Modifier.isPublic(method.getModifiers())) {
                publicNames.add(method.getName());
            }
        }
        if (!seen.equals(FACE)) {
            System.out.println("the face is " + seen);
        }
        check.due("the face as in the document", seen.equals(FACE), true);
        check.due("no private method with a public one's name", noNameTwice(type, publicNames), true);
        check.due("at most twelve classes", type.getDeclaredClasses().length < 12, true);
        for (Class<?> inside : type.getDeclaredClasses()) {
            check.due(inside.getName() + " is static", Modifier.isStatic(inside.getModifiers()), true);
            check.due(inside.getName() + " has no public name", noNameTwice(inside, publicNames), true);
        }
        check.end();
    }

    private static void note(Set<String> seen, int modifiers, String member) {
        if (!Modifier.isPrivate(modifiers)) {
            seen.add(member.replace("PostingShelf.", ""));
        }
    }

    private static boolean noNameTwice(Class<?> type, Set<String> publicNames) {
        for (Method method : type.getDeclaredMethods()) {
            if (!Modifier.isPublic(method.getModifiers()) && publicNames.contains(method.getName())) {
                return false;
            }
        }
        return true;
    }
}
