import java.lang.reflect.Constructor;
import java.lang.reflect.Field;
import java.lang.reflect.Method;
import java.lang.reflect.Modifier;
import java.util.Set;
import java.util.TreeSet;

/** The public face is the document's and no more; no private method bears a public one's name. */
public final class FaceTest {
    private static final Due due = new Due("FaceTest");
    private static final Set<String> FACE = Set.of(
        "int way 4", "int ofHouse 2", "int gear 1", "int give 2", "int bar 2", "int passes 3", "int visits 5",
        "int going 5", "int least 0", "int hard 0", "int best 1", "int twos 1", "int gift 1", "int worst 1",
        "int reading 2", "int back 1", "int had 2", "int kinds 1", "long odds 2", "int sheet 3", "int lose 1",
        "int put 3", "long cell 3", "int copy 5", "int tell 1", "int knock 1", "int as 2", "int trace 0",
        "int fault 0", "int many 1");

    public static void main(String[] args) {
        constants();
        members();
        names();
        due.end();
    }

    private static void constants() {
        due.is("UNKNOWN", TrickHouses.UNKNOWN, -1);
        due.is("OUTSIDE", TrickHouses.OUTSIDE, -2);
        due.is("STATE", TrickHouses.STATE, -3);
        due.is("FULL", TrickHouses.FULL, -4);
        due.is("NONE", TrickHouses.NONE, -9);
        due.is("LOST", TrickHouses.LOST, Long.MIN_VALUE);
        Set<String> open = new TreeSet<>();
        for (Field field : TrickHouses.class.getDeclaredFields()) {
            if (!Modifier.isPrivate(field.getModifiers())) {
                open.add(field.getName());
                due.is("public static final, " + field.getName(), field.getModifiers(),
                    Modifier.PUBLIC | Modifier.STATIC | Modifier.FINAL);
                Class<?> type = field.getName().equals("LOST") ? long.class : int.class;
                due.holds(type + " " + field.getName(), field.getType() == type);
            }
            boolean state = Modifier.isStatic(field.getModifiers()) && !Modifier.isFinal(field.getModifiers());
            due.holds("no static state in " + field.getName(), !state);
        }
        due.holds("open fields are the constants", open.equals(
            Set.of("UNKNOWN", "OUTSIDE", "STATE", "FULL", "NONE", "LOST")));
    }

    private static void members() {
        int modifiers = TrickHouses.class.getModifiers();
        due.holds("public and final", Modifier.isPublic(modifiers) && Modifier.isFinal(modifiers));
        Constructor<?>[] constructors = TrickHouses.class.getDeclaredConstructors();
        due.is("constructors", constructors.length, 1);
        due.holds("a public one without parameters", Modifier.isPublic(constructors[0].getModifiers())
            && constructors[0].getParameterCount() == 0);
        Set<String> face = new TreeSet<>();
        for (Method method : TrickHouses.class.getDeclaredMethods()) {
            if (!Modifier.isPrivate(method.getModifiers())) {
                face.add(method.getReturnType() + " " + method.getName() + " " + method.getParameterCount());
                for (Class<?> type : method.getParameterTypes()) {
                    due.holds("ints go to " + method.getName(), type == int.class);
                }
            }
        }
        due.holds("the face, not " + face, face.equals(FACE));
    }

    private static void names() {
        Set<String> open = new TreeSet<>();
        for (String row : FACE) {
            open.add(row.split(" ")[1]);
        }
        for (Method method : TrickHouses.class.getDeclaredMethods()) {
            boolean hidden = Modifier.isPrivate(method.getModifiers());
            due.holds("private " + method.getName(), !hidden || !open.contains(method.getName()));
        }
        Class<?>[] inside = TrickHouses.class.getDeclaredClasses();
        due.holds("at most twelve classes inside", inside.length <= 12);
        for (Class<?> nested : inside) {
            due.holds(nested + " is static", Modifier.isStatic(nested.getModifiers()));
            due.holds(nested + " is hidden", !Modifier.isPublic(nested.getModifiers())
                && !Modifier.isProtected(nested.getModifiers()));
            for (Method method : nested.getDeclaredMethods()) {
                due.holds(nested + " " + method.getName(), !open.contains(method.getName()));
            }
        }
    }
}
