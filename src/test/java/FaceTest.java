import java.lang.reflect.Constructor;
import java.lang.reflect.Field;
import java.lang.reflect.Method;
import java.lang.reflect.Modifier;
import java.util.Set;
import java.util.TreeSet;

/** The class has the document's face, and shows nothing beside it. */
public final class FaceTest {
    private static final String WHERE = "IndexOutOfBoundsException";
    private static final String WHAT = "IllegalArgumentException";
    private static final String WHEN = "IllegalStateException";

    private static final Set<String> FACE = Set.of(
        "int street(int,int)" + " throws " + WHAT + "," + WHEN,
        "int hall(int,int)" + " throws " + WHAT + "," + WHEN,
        "int rooms(int,int)" + " throws " + WHERE + "," + WHAT,
        "int household(int,int,boolean)" + " throws " + WHERE + "," + WHAT + "," + WHEN,
        "int river(int,int)" + " throws " + WHAT,
        "int buses(int)" + " throws " + WHAT,
        "int fetch(int)" + " throws " + WHERE + "," + WHEN,
        "int pass(int)" + " throws " + WHAT + "," + WHEN,
        "int lot(int,int)" + " throws " + WHAT + "," + WHEN,
        "int give(int)" + " throws " + WHAT,
        "int list(int)" + " throws " + WHAT + "," + WHEN,
        "int strike(int,boolean)" + " throws " + WHERE,
        "int knock()",
        "int ofStreet(int,int)" + " throws " + WHERE + "," + WHAT,
        "int ofHousehold(int,int)" + " throws " + WHERE + "," + WHAT,
        "int ofHall(int,int)" + " throws " + WHERE + "," + WHAT,
        "int ofLot(int,int)" + " throws " + WHERE + "," + WHAT,
        "int county(int)" + " throws " + WHAT,
        "java.lang.String signs()",
        "boolean can(int)" + " throws " + WHAT,
        "int chosen()",
        "boolean isStable(int)",
        "int would(int,int)" + " throws " + WHAT,
        "boolean areAlike(int,int)" + " throws " + WHAT,
        "boolean isSound()",
        "long digest()");

    private final Check check = new Check();

    public static void main(String[] args) {
        FaceTest test = new FaceTest();
        test.theClass();
        test.theMethods();
        test.theClassesInside();
        test.check.end("FaceTest");
    }

    private void theClass() {
        Class<?> face = Twelvehundred.class;
        check.due("modifiers", "public final", () -> Modifier.toString(face.getModifiers()));
        check.due("superclass", Object.class, () -> face.getSuperclass());
        check.due("interfaces", 0, () -> face.getInterfaces().length);
        Constructor<?>[] constructors = face.getDeclaredConstructors();
        check.due("constructors", 1, () -> constructors.length);
        check.due("constructor", "public Twelvehundred()", () -> constructors[0].toGenericString());
        for (Field field : face.getDeclaredFields()) {
            check.due(field + " is private", true, () -> Modifier.isPrivate(field.getModifiers()));
            check.due(field + " is final", true, () -> Modifier.isFinal(field.getModifiers()));
        }
    }

    private void theMethods() {
        Set<String> shown = new TreeSet<>();
        Set<String> hidden = new TreeSet<>();
        for (Method method : Twelvehundred.class.getDeclaredMethods()) {
            if (Modifier.isPrivate(method.getModifiers())) {
                hidden.add(method.getName());
            } else {
                shown.add(method.toString().replaceAll("java.lang.(I\\w+)", "$1")
                    .replace("public ", "").replace("Twelvehundred.", ""));
            }
        }
        check.due("methods", new TreeSet<>(FACE), () -> shown);
        for (String method : FACE) {
            String name = method.replaceAll(".* (\\w+)\\(.*", "$1");
            check.due("a private method named " + name, false, () -> hidden.contains(name));
        }
    }

    private void theClassesInside() {
        Class<?>[] inside = Twelvehundred.class.getDeclaredClasses();
        check.due("some twelve classes", true, () -> inside.length < 12);
        for (Class<?> one : inside) {
            int modifiers = one.getModifiers();
            check.due(one + " is static", true, () -> Modifier.isStatic(modifiers));
            check.due(one + " is hidden", false, () -> Modifier.isPublic(modifiers) || Modifier.isProtected(modifiers));
            check.due(one + " has some twenty fields", true, () -> one.getDeclaredFields().length <= 20);
        }
    }
}
