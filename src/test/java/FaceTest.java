import java.lang.reflect.Constructor;
import java.lang.reflect.Field;
import java.lang.reflect.Method;
import java.lang.reflect.Modifier;
import java.util.Set;
import java.util.TreeSet;

/** The class shows the document's face and nothing more. */
final class FaceTest {
    public static void main(String[] args) {
        Set<String> want = new TreeSet<>(Set.of(
                "public ShortVectors()",
                "public int ShortVectors.steps(int,int,int,int)",
                "public int ShortVectors.has(int,int)",
                "public int ShortVectors.shortest()",
                "public int ShortVectors.many()",
                "public int ShortVectors.second()",
                "public int ShortVectors.distance(int,int)",
                "public int ShortVectors.nearest(int,int)",
                "public int ShortVectors.within(int)",
                "public int ShortVectors.same(int,int,int,int)"));
        Set<String> got = new TreeSet<>();
        for (Constructor<?> constructor : ShortVectors.class.getDeclaredConstructors()) {
            got.add(constructor.toString());
        }
        for (Method method : ShortVectors.class.getDeclaredMethods()) {
            if (!Modifier.isPrivate(method.getModifiers())) {
                got.add(method.toString());
            }
        }
        for (Field field : ShortVectors.class.getDeclaredFields()) {
            if (!Modifier.isPrivate(field.getModifiers())) {
                got.add(field.toString());
            }
        }
        if (!got.equals(want)) {
            System.out.println("the face is " + got);
        }
        Check.due("the face is the document's", 1, got.equals(want) ? 1 : 0);
        Check.due("modifiers", Modifier.PUBLIC | Modifier.FINAL, ShortVectors.class.getModifiers());
        Check.end();
    }
}
