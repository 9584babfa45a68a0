import java.lang.reflect.Constructor;
import java.lang.reflect.Field;
import java.lang.reflect.Method;
import java.lang.reflect.Modifier;
import java.util.TreeSet;

// The class shows the face of the document and nothing more, and holds only what LANGUAGE.md lets it hold.
public final class FaceTest {
    private static final String[] FACE = {
        "literal/1", "add/0", "clear/0", "remove/1", "price/2", "conditions/0", "possible/1", "model/1",
        "kernels/0", "kernel/1", "corrections/0", "correction/1", "cheapest/0", "cheapestSet/0", "smallest/0",
        "blame/1", "core/0", "sort/1", "width/1",
    };
    private static int wrong = 0;

    private static void must(boolean holds, String what) {
        if (!holds) {
            wrong++;
            System.out.println("not so: " + what);
        }
    }

    private static boolean allInts(Method method) {
        boolean ints = method.getReturnType() == int.class;
        for (Class<?> type : method.getParameterTypes()) {
            ints = ints && type == int.class;
        }
        return ints;
    }

    private static void methods() {
        TreeSet<String> missing = new TreeSet<>();
        TreeSet<String> publicNames = new TreeSet<>();
        for (String method : FACE) {
            missing.add(method);
            publicNames.add(method.substring(0, method.indexOf('/')));
        }
        for (Method method : ConflictSets.class.getDeclaredMethods()) {
            String name = method.getName();
            if (Modifier.isPrivate(method.getModifiers())) {
                must(!publicNames.contains(name), "the private method " + name + " has a name of its own");
            } else {
                must(Modifier.isPublic(method.getModifiers()), name + " is public or private");
                must(!Modifier.isStatic(method.getModifiers()), name + " is not static");
                must(allInts(method), name + " takes and answers int alone");
                must(missing.remove(name + "/" + method.getParameterCount()), name + " is in the document");
            }
        }
        must(missing.isEmpty(), "these are there: " + missing);
    }

    private static void fields() {
        for (Field field : ConflictSets.class.getDeclaredFields()) {
            int modifiers = field.getModifiers();
            Class<?> type = field.getType();
            must(Modifier.isPrivate(modifiers), field.getName() + " is private");
            if (Modifier.isStatic(modifiers)) {
                must(Modifier.isFinal(modifiers) && (type == int.class || type == long.class),
                    field.getName() + " is a constant");
            } else {
                must(type.isPrimitive() || type.isArray() && type.getComponentType().isPrimitive(),
                    field.getName() + " is a number or an array of numbers");
            }
        }
    }

    public static void main(String[] args) {
        must(Modifier.isPublic(ConflictSets.class.getModifiers()), "the class is public");
        must(Modifier.isFinal(ConflictSets.class.getModifiers()), "the class is final");
        must(ConflictSets.class.getSuperclass() == Object.class, "the class extends nothing");
        must(ConflictSets.class.getInterfaces().length == 0, "the class implements nothing");
        must(ConflictSets.class.getDeclaredClasses().length == 0, "the class has no nested class");
        Constructor<?>[] constructors = ConflictSets.class.getDeclaredConstructors();
        must(constructors.length == 1, "there is one constructor");
        must(constructors[0].getParameterCount() == 0, "the constructor takes nothing");
        must(Modifier.isPublic(constructors[0].getModifiers()), "the constructor is public");
        methods();
        fields();
        System.out.println(wrong == 0 ? "the face is as due" : wrong + " things are not as due");
        if (wrong != 0) {
            System.exit(1);
        }
    }
}
