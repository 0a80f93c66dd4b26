import java.lang.reflect.Constructor;
import java.lang.reflect.Field;
import java.lang.reflect.Method;
import java.lang.reflect.Modifier;
import java.util.Set;
import java.util.TreeSet;

/** The class shows the document's face and nothing else, and keeps no static state. */
public final class FaceTest {
    private static final String[] FACE = {
        "boolean type(char)", "void wipe()", "int alias(boolean)", "int read()",
        "int pair(boolean)", "int show(int,int)", "char shown(int)", "int tags()",
        "boolean support(int)", "boolean fits(int,int)", "int lookup(int)",
        "int distance(int,int)", "int best(int)", "boolean put(int,int,int)",
        "int get(int,int)", "int found()"};

    private FaceTest() {
    }

    public static void main(String[] args) {
        Class<?> face = LanguageTags.class;
        Checks.due("public and final", face.getModifiers(), Modifier.PUBLIC | Modifier.FINAL);
        Checks.due("methods", visibleMethods(face).toString(), new TreeSet<>(Set.of(FACE)).toString());
        Checks.due("constructors", face.getDeclaredConstructors().length, 1);
        for (Constructor<?> made : face.getDeclaredConstructors()) {
            Checks.due("constructor", made.toString(), "public LanguageTags()");
        }
        checkFields(face);
        for (Class<?> inside : face.getDeclaredClasses()) {
            Checks.due(inside + " is static", Modifier.isStatic(inside.getModifiers()), true);
            Checks.due(inside + " is public", Modifier.isPublic(inside.getModifiers()), false);
            checkNames(inside);
            checkFields(inside);
        }
        Checks.finish();
    }

    private static Set<String> visibleMethods(Class<?> face) {
        Set<String> visible = new TreeSet<>();
        for (Method method : face.getDeclaredMethods()) {
            if (!Modifier.isPrivate(method.getModifiers())) {
                String text = method.toString();
                visible.add(text.replace("public ", "").replace("LanguageTags.", ""));
            }
        }
        return visible;
    }

    /** Fields are private but for constants of classes inside; static ones are final constants. */
    private static void checkFields(Class<?> owner) {
        for (Field field : owner.getDeclaredFields()) {
            int kind = field.getModifiers();
            boolean constant = Modifier.isStatic(kind) && Modifier.isFinal(kind)
                    && field.getType().isPrimitive();
            Checks.due(field + " is a constant or none", constant || !Modifier.isStatic(kind), true);
            boolean seen = !Modifier.isPrivate(kind);
            Checks.due(field + " is hidden", seen && (!constant || owner == LanguageTags.class), false);
        }
    }

    /** No method inside bears the name of a public one. */
    private static void checkNames(Class<?> inside) {
        for (Method method : inside.getDeclaredMethods()) {
            for (String publicOne : FACE) {
                boolean same = publicOne.contains(" " + method.getName() + "(");
                Checks.due(method + " bears a public name", same, false);
            }
        }
    }
}
