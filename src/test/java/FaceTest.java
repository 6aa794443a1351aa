import java.lang.reflect.Constructor;
import java.lang.reflect.Field;
import java.lang.reflect.Method;
import java.lang.reflect.Modifier;
import java.util.Arrays;
import java.util.TreeSet;

/** The class has the document's public face, and nothing else that can be seen from outside. */
public final class FaceTest {
    private static final String[] FACE = {
        "NONE = -1", "THERE = -2", "FULL = -3", "WRONG = -4", "DOWN = -9",
        "EpochVolume(int, int, int)",
        "int make(int, int, boolean)", "int find(int, int)", "int write(int, int, int)",
        "int read(int, int) throws IllegalStateException, NoSuchElementException",
        "int cut(int, int)", "int remove(int, int)", "int move(int, int, int, int)", "int inode(int, int)",
        "int entry(int, int, int)", "int sync()", "int land()", "int home()", "boolean limit(int, long)",
        "boolean crash(long)", "boolean lose(long)", "int mount(boolean, int, long)", "int attach()",
        "int slot(int, int)", "int word(int, int, int, boolean)", "int count(int)",
    };

    private static String names(Class<?>[] types) {
        StringBuilder text = new StringBuilder();
        for (Class<?> type : types) {
            text.append(text.length() == 0 ? "" : ", ").append(type.getSimpleName());
        }
        return text.toString();
    }

    public static void main(String[] args) throws IllegalAccessException {
        TreeSet<String> seen = new TreeSet<>();
        TreeSet<String> bad = new TreeSet<>();
        for (Field f : EpochVolume.class.getDeclaredFields()) {
            int m = f.getModifiers();
            if (Modifier.isPublic(m) && Modifier.isStatic(m) && Modifier.isFinal(m) && f.getType() == int.class) {
                seen.add(f.getName() + " = " + f.getInt(null));
            } else if (!Modifier.isPrivate(m)) {
                bad.add("a field is seen: " + f);
            }
        }
        for (Constructor<?> c : EpochVolume.class.getDeclaredConstructors()) {
            seen.add((Modifier.isPublic(c.getModifiers()) ? "" : "hidden ") + "EpochVolume(" + names(c.getParameterTypes()) + ")");
        }
        for (Method m : EpochVolume.class.getDeclaredMethods()) {
            String thrown = names(m.getExceptionTypes());
            if (Modifier.isPublic(m.getModifiers()) && !Modifier.isStatic(m.getModifiers())) {
                seen.add(m.getReturnType().getSimpleName() + " " + m.getName() + "(" + names(m.getParameterTypes()) + ")"
                    + (thrown.isEmpty() ? "" : " throws " + thrown));
            } else if (!Modifier.isPrivate(m.getModifiers())) {
                bad.add("a method is seen: " + m);
            }
        }
        for (String want : FACE) {
            if (!seen.remove(want)) {
                bad.add("it is missing: " + want);
            }
        }
        for (String more : seen) {
            bad.add("it is too much: " + more);
        }
        if (EpochVolume.class.getModifiers() != (Modifier.PUBLIC | Modifier.FINAL)) {
            bad.add("the class is not public and final alone");
        }
        for (Class<?> inside : EpochVolume.class.getDeclaredClasses()) {
            if (!Modifier.isStatic(inside.getModifiers()) || Modifier.isPublic(inside.getModifiers())) {
                bad.add("a class inside is not static, or is public: " + inside);
            }
        }
        for (String text : bad) {
            System.out.println(text);
        }
        System.out.println(bad.isEmpty() ? "the face is the document's, " + Arrays.asList(FACE).size() + " members" : "the face is another one");
        if (!bad.isEmpty()) {
            System.exit(1);
        }
    }
}
