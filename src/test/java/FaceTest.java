import java.lang.reflect.Constructor;
import java.lang.reflect.Field;
import java.lang.reflect.Method;
import java.lang.reflect.Modifier;
import java.util.Set;
import java.util.TreeSet;

/** The public face is the document's, with nothing missing and nothing beside it. */
public final class FaceTest {
    private static final Due due = new Due();

    private static final Set<String> FACE = Set.of(
        "public static final int BAD_POINT",
        "public static final int FULL",
        "public static final int BAD_COLOUR",
        "public static final int BAD_PIXEL",
        "public PolygonFill()",
        "public int begin(int,int)",
        "public int corner(int,int)",
        "public int move(int,int)",
        "public void mirror()",
        "public void clear()",
        "public int paint(int,boolean)",
        "public int wipe(int)",
        "public int pixel(int,int)",
        "public int coverage(int,int,boolean)",
        "public int area(boolean)",
        "public int winding(int,int)",
        "public int rowSum(int)");

    public static void main(String[] args) {
        Set<String> found = new TreeSet<>();
        Class<?> type = PolygonFill.class;
        for (Field field : type.getDeclaredFields()) {
            collect(found, field.getModifiers(), field.toString());
        }
        for (Method method : type.getDeclaredMethods()) {
            collect(found, method.getModifiers(), method.toString());
        }
        for (Constructor<?> constructor : type.getDeclaredConstructors()) {
            collect(found, constructor.getModifiers(), constructor.toString());
        }
        for (String member : FACE) {
            due.holds("the class has " + member, found.contains(member));
        }
        for (String member : found) {
            due.holds("the document has " + member, FACE.contains(member));
        }
        int modifiers = type.getModifiers();
        due.holds("public and final", Modifier.isPublic(modifiers) && Modifier.isFinal(modifiers));
        due.holds("no nested class", type.getDeclaredClasses().length == 0);
        due.holds("no other parent", type.getSuperclass() == Object.class && type.getInterfaces().length == 0);
        due.is("BAD_POINT", PolygonFill.BAD_POINT, -1);
        due.is("FULL", PolygonFill.FULL, -2);
        due.is("BAD_COLOUR", PolygonFill.BAD_COLOUR, -3);
        due.is("BAD_PIXEL", PolygonFill.BAD_PIXEL, -4);
        due.end();
    }

    private static void collect(Set<String> found, int modifiers, String text) {
        if (!Modifier.isPrivate(modifiers)) {
            found.add(text.replace("PolygonFill.", ""));
        }
    }
}
