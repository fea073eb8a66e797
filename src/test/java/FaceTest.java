import java.lang.reflect.Constructor;
import java.lang.reflect.Field;
import java.lang.reflect.Method;
import java.lang.reflect.Modifier;
import java.util.Arrays;
import java.util.Set;
import java.util.TreeSet;

/** The public face is the document's, and nothing of the class but its inner classes is seen beside it. */
public final class FaceTest {
    private static final Set<String> FACE = new TreeSet<>(Arrays.asList(
        "public RoundJournal()",
        "public static final int RoundJournal.NONE",
        "public boolean RoundJournal.type(long,int)",
        "public int RoundJournal.append(int) throws java.lang.IllegalArgumentException,java.lang.IllegalStateException",
        "public int RoundJournal.sync()",
        "public boolean RoundJournal.keep(int)",
        "public int RoundJournal.crash(int,int) throws java.lang.IllegalArgumentException,"
            + "java.lang.IllegalStateException",
        "public boolean RoundJournal.spoil(int,int,int)",
        "public int RoundJournal.disk(int,int)",
        "public int RoundJournal.record(int,int) throws java.util.NoSuchElementException",
        "public int RoundJournal.write(int,int) throws java.util.NoSuchElementException",
        "public int RoundJournal.total(int)"));

    private FaceTest() { }

    public static void main(String[] args) {
        Set<String> seen = new TreeSet<>();
        Set<String> publicNames = new TreeSet<>();
        Set<String> privateNames = new TreeSet<>();
        for (Method method : RoundJournal.class.getDeclaredMethods()) {
            boolean hidden = Modifier.isPrivate(method.getModifiers());
            (hidden ? privateNames : publicNames).add(method.getName());
            if (!hidden) {
                seen.add(method.toString());
            }
        }
        for (Field field : RoundJournal.class.getDeclaredFields()) {
            if (!Modifier.isPrivate(field.getModifiers())) {
                seen.add(field.toString());
            }
        }
        for (Constructor<?> constructor : RoundJournal.class.getDeclaredConstructors()) {
            seen.add(constructor.toString());
        }
        Checks.due("the face", seen, FACE);
        Checks.due("the class", Modifier.toString(RoundJournal.class.getModifiers()), "public final");
        privateNames.retainAll(publicNames);
        Checks.due("private methods that bear a public one's name", privateNames, "[]");
        for (Class<?> inside : RoundJournal.class.getDeclaredClasses()) {
            Checks.due(inside + " is static", Modifier.isStatic(inside.getModifiers()), true);
            Checks.due(inside + " is not public", Modifier.isPublic(inside.getModifiers()), false);
        }
        Checks.end("FaceTest");
    }
}
