import java.lang.reflect.Constructor;
import java.lang.reflect.Field;
import java.lang.reflect.Method;
import java.lang.reflect.Modifier;
import java.util.Set;
import java.util.TreeSet;

/** The public face of the document, whole and with nothing beside it. */
public final class FaceTest {
    private static final Set<String> FACE = Set.of(
        "public static final int BAD",
        "public static final int FULL",
        "public static final int NONE",
        "public DecisionTables()",
        "public int table(int,int,int)",
        "public int rule(int,int,int)",
        "public int unrule(int)",
        "public int drop()",
        "public int value(int,int)",
        "public int fires(int,int)",
        "public int gaps(int)",
        "public int overlaps(int)",
        "public int needless(int)",
        "public int unreached(int)",
        "public int count(int,int)",
        "public int first(int,int)",
        "public int possible(int)",
        "public int depends(int)",
        "public boolean rising(int,int)",
        "public boolean same(int,int)");

    private static final Set<Class<?>> TYPES = Set.of(int.class, long.class, short.class, byte.class, char.class,
        boolean.class, int[].class, long[].class, short[].class, byte[].class, char[].class, boolean[].class);

    private static int wrong = 0;

    private static void must(boolean holds, String what) {
        if (!holds) {
            wrong++;
            System.out.println(what);
        }
    }

    private static String plain(String member) {
        return member.replace("DecisionTables.", "");
    }

    public static void main(String[] args) {
        Class<?> type = DecisionTables.class;
        Set<String> seen = new TreeSet<>();
        Set<String> open = new TreeSet<>();
        must(Modifier.isPublic(type.getModifiers()) && Modifier.isFinal(type.getModifiers()), "not public and final");
        must(type.getDeclaredClasses().length == 0, "a class within the class");
        for (Field field : type.getDeclaredFields()) {
            if (!Modifier.isPrivate(field.getModifiers())) {
                seen.add(plain(field.toString()));
            }
            must(TYPES.contains(field.getType()), "type of " + field);
            must(!Modifier.isStatic(field.getModifiers()) || Modifier.isFinal(field.getModifiers())
                && (field.getType() == int.class || field.getType() == long.class), "static " + field);
        }
        for (Constructor<?> constructor : type.getDeclaredConstructors()) {
            seen.add(plain(constructor.toString()));
        }
        for (Method method : type.getDeclaredMethods()) {
            if (!Modifier.isPrivate(method.getModifiers())) {
                seen.add(plain(method.toString()));
                open.add(method.getName());
            }
        }
        for (Method method : type.getDeclaredMethods()) {
            must(!Modifier.isPrivate(method.getModifiers()) || !open.contains(method.getName()),
                "a private method with a public one's name: " + method);
        }
        for (String member : FACE) {
            must(seen.contains(member), "missing: " + member);
        }
        for (String member : seen) {
            must(FACE.contains(member), "not in the document: " + member);
        }
        System.out.println(wrong == 0 ? "the face is the document's" : wrong + " faults in the face");
        if (wrong != 0) {
            System.exit(1);
        }
    }
}
