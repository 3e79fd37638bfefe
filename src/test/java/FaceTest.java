import java.lang.reflect.Constructor;
import java.lang.reflect.Field;
import java.lang.reflect.Method;
import java.lang.reflect.Modifier;
import java.util.ArrayList;
import java.util.Arrays;
import java.util.Collections;
import java.util.HashSet;
import java.util.List;
import java.util.Set;

/** The face is the document's, and nothing else can be seen from outside. */
public final class FaceTest {
    private static final String[] METHODS = {
        "public int word(int,long) throws java.lang.IndexOutOfBoundsException",
        "public void cut(int) throws java.lang.IndexOutOfBoundsException",
        "public void context(int) throws java.lang.IllegalArgumentException",
        "public void put(int,long) throws java.lang.IndexOutOfBoundsException",
        "public int verify() throws java.lang.IllegalStateException",
        "public int fault()",
        "public long state(int,int,int) throws java.lang.IllegalArgumentException,"
            + "java.lang.IllegalStateException,java.lang.IndexOutOfBoundsException",
        "public long run() throws java.lang.IllegalStateException",
        "public int count(int) throws java.lang.IllegalArgumentException",
    };

    public static void main(String[] args) {
        Check check = new Check("FaceTest");
        List<String> seen = new ArrayList<>();
        Set<String> names = new HashSet<>();
        for (Method m : WordJudge.class.getDeclaredMethods()) {
            if (!Modifier.isPrivate(m.getModifiers())) {
                seen.add(m.toGenericString().replace("WordJudge.", ""));
                names.add(m.getName());
            }
        }
        List<String> want = new ArrayList<>(Arrays.asList(METHODS));
        Collections.sort(seen);
        Collections.sort(want);
        System.out.println(seen.equals(want) ? "the methods are the document's" : "seen: " + seen);
        check.due("methods are the document's", seen.equals(want) ? 1 : 0, 1);

        Constructor<?>[] made = WordJudge.class.getDeclaredConstructors();
        check.due("constructors", made.length, 1);
        check.due("constructor is public and takes nothing",
            Modifier.isPublic(made[0].getModifiers()) && made[0].getParameterCount() == 0 ? 1 : 0, 1);
        check.due("class is public and final", WordJudge.class.getModifiers() & (Modifier.PUBLIC | Modifier.FINAL),
            Modifier.PUBLIC | Modifier.FINAL);
        for (Field f : WordJudge.class.getDeclaredFields()) {
            check.due("field " + f.getName() + " is private", Modifier.isPrivate(f.getModifiers()) ? 1 : 0, 1);
            lookAtStatic(check, f);
        }
        check.due("classes are at most twelve",
            WordJudge.class.getDeclaredClasses().length + 1 <= 12 ? 1 : 0, 1);
        for (Class<?> inside : WordJudge.class.getDeclaredClasses()) {
            lookInside(check, inside, names);
        }
        check.end();
    }

    private static void lookInside(Check check, Class<?> inside, Set<String> names) {
        int modifiers = inside.getModifiers();
        boolean hidden = !Modifier.isPublic(modifiers) && !Modifier.isProtected(modifiers);
        check.due(inside + " is hidden and static", hidden && Modifier.isStatic(modifiers) ? 1 : 0, 1);
        check.due(inside + " has few fields", inside.getDeclaredFields().length <= 20 ? 1 : 0, 1);
        for (Field f : inside.getDeclaredFields()) {
            lookAtStatic(check, f);
        }
        for (Method m : inside.getDeclaredMethods()) {
            check.due(m + " bears another name than the face's", names.contains(m.getName()) ? 1 : 0, 0);
            check.due(m + " takes at most seven", m.getParameterCount() <= 7 ? 1 : 0, 1);
        }
    }

    private static void lookAtStatic(Check check, Field f) {
        if (Modifier.isStatic(f.getModifiers())) {
            check.due("static " + f.getName() + " is final", Modifier.isFinal(f.getModifiers()) ? 1 : 0, 1);
        }
    }
}
