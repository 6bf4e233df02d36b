import java.lang.reflect.Constructor;
import java.lang.reflect.Field;
import java.lang.reflect.Method;
import java.lang.reflect.Modifier;
import java.util.Set;
import java.util.TreeSet;

/** The class shows the document's face, and nothing else of it can be reached from outside. */
public final class FaceTests {
    private static final Set<String> FACE = new TreeSet<>(Set.of(
        "public static final int NONE",
        "public FilingOrder()",
        "public void FilingOrder.title(int)",
        "public int FilingOrder.language(int)",
        "public boolean FilingOrder.roman(boolean)",
        "public int FilingOrder.mark(int,int)",
        "public boolean FilingOrder.skip(int)",
        "public int FilingOrder.key()",
        "public int FilingOrder.at(int) throws java.lang.ArrayIndexOutOfBoundsException",
        "public int FilingOrder.number(int,int)",
        "public int FilingOrder.add(int)",
        "public int FilingOrder.file()",
        "public int FilingOrder.browse(int,int)",
        "public int FilingOrder.seek()",
        "public int FilingOrder.compare(int,int)",
        "public int FilingOrder.equal(int,int)"));

    public static void main(String[] args) {
        Set<String> seen = new TreeSet<>();
        Set<String> names = new TreeSet<>();
        boolean right = Modifier.isFinal(FilingOrder.class.getModifiers()) && Modifier.isPublic(FilingOrder.class.getModifiers());
        for (Field field : FilingOrder.class.getDeclaredFields()) {
            if (!Modifier.isPrivate(field.getModifiers())) {
                seen.add(Modifier.toString(field.getModifiers()) + " " + field.getType() + " " + field.getName());
            }
        }
        for (Constructor<?> constructor : FilingOrder.class.getDeclaredConstructors()) {
            seen.add(constructor.toString());
        }
        for (Method method : FilingOrder.class.getDeclaredMethods()) {
            if (!Modifier.isPrivate(method.getModifiers())) {
                seen.add(method.toString());
                names.add(method.getName());
            }
        }
        for (Method method : FilingOrder.class.getDeclaredMethods()) {
            if (Modifier.isPrivate(method.getModifiers()) && names.contains(method.getName())) {
                System.out.println("a private method bears the name of a public one: " + method.getName());
                right = false;
            }
        }
        for (Class<?> inside : FilingOrder.class.getDeclaredClasses()) {
            right &= Modifier.isStatic(inside.getModifiers());
        }
        if (!seen.equals(FACE)) {
            System.out.println("the face is " + seen + ", due is " + FACE);
            right = false;
        }
        System.out.println(right ? "the face is as due" : "the face is not as due");
        if (!right) {
            System.exit(1);
        }
    }
}
