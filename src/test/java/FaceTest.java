import java.lang.reflect.Constructor;
import java.lang.reflect.Field;
import java.lang.reflect.Method;
import java.lang.reflect.Modifier;
import java.util.Set;
import java.util.TreeSet;

// The class shows exactly the document's members, and its fields keep to the
// types that LANGUAGE.md allows.
public final class FaceTest {
    private static int wrong = 0;

    private static void check(boolean holds, String what) {
        if (!holds) {
            wrong++;
            System.out.println("not so: " + what);
        }
    }

    private static Set<String> documented() {
        Set<String> face = new TreeSet<>();
        face.add("public static final int BAD_TAXON = -1");
        face.add("public static final int BAD_SITE = -2");
        face.add("public static final int BAD_STATES = -3");
        face.add("public static final int BAD_WEIGHT = -4");
        face.add("public static final int BAD_CODE = -5");
        face.add("public ParsimonyPhylogeny(int,int)");
        face.add("public int ParsimonyPhylogeny.states(int,int,int)");
        face.add("public int ParsimonyPhylogeny.weight(int,int)");
        face.add("public int ParsimonyPhylogeny.trees()");
        face.add("public int ParsimonyPhylogeny.score(int)");
        face.add("public int ParsimonyPhylogeny.least()");
        face.add("public int ParsimonyPhylogeny.bestTree()");
        face.add("public int ParsimonyPhylogeny.within(int)");
        face.add("public int ParsimonyPhylogeny.support(int)");
        face.add("public int ParsimonyPhylogeny.siteLeast(int)");
        face.add("public int ParsimonyPhylogeny.changes(int)");
        return face;
    }

    private static Set<String> shown(Class<?> type) throws ReflectiveOperationException {
        Set<String> face = new TreeSet<>();
        for (Field field : type.getDeclaredFields()) {
            if (!Modifier.isPrivate(field.getModifiers())) {
                face.add(Modifier.toString(field.getModifiers()) + " " + field.getType() + " " + field.getName()
                        + " = " + field.get(null));
            }
        }
        for (Constructor<?> constructor : type.getDeclaredConstructors()) {
            if (!Modifier.isPrivate(constructor.getModifiers())) {
                face.add(constructor.toString());
            }
        }
        for (Method method : type.getDeclaredMethods()) {
            if (!Modifier.isPrivate(method.getModifiers())) {
                face.add(method.toString());
            }
        }
        return face;
    }

    private static void checkFields(Class<?> type) {
        Set<String> numbers = Set.of("int", "long", "short", "byte", "char", "boolean");
        for (Field field : type.getDeclaredFields()) {
            Class<?> held = field.getType().isArray() ? field.getType().getComponentType() : field.getType();
            check(numbers.contains(held.getName()), "field " + field.getName() + " is of an allowed type");
            if (Modifier.isStatic(field.getModifiers())) {
                check(Modifier.isFinal(field.getModifiers()) && (field.getType() == int.class || field.getType() == long.class),
                        "static field " + field.getName() + " is a constant of int or long");
            }
        }
    }

    private static void checkMethods(Class<?> type) {
        Set<String> names = new TreeSet<>();
        for (Method method : type.getDeclaredMethods()) {
            check(names.add(method.getName()), "only one method is named " + method.getName());
            check(method.getParameterCount() <= 7, method.getName() + " takes at most seven parameters");
        }
    }

    public static void main(String[] args) throws ReflectiveOperationException {
        Class<?> type = ParsimonyPhylogeny.class;
        check(Modifier.toString(type.getModifiers()).equals("public final"), "the class is public and final");
        check(type.getSuperclass() == Object.class && type.getInterfaces().length == 0, "it extends nothing");
        check(type.getDeclaredClasses().length == 0, "no nested class");
        check(type.getPackageName().isEmpty(), "no package");
        Set<String> shown = shown(type);
        check(shown.equals(documented()), "the public face is the document's, but it is " + shown);
        checkFields(type);
        checkMethods(type);
        System.out.println(wrong == 0 ? "the face is as documented" : wrong + " faults in the face");
        if (wrong != 0) {
            System.exit(1);
        }
    }
}
