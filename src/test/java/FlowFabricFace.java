import java.lang.reflect.Constructor;
import java.lang.reflect.Field;
import java.lang.reflect.Method;
import java.lang.reflect.Modifier;
import java.util.Arrays;
import java.util.HashSet;
import java.util.List;
import java.util.Set;
import java.util.TreeSet;

/** The class has the face of the document and no member beyond it that others could see. */
public final class FlowFabricFace {
    private static final List<String> METHODS = List.of(
            "link/2", "unlink/1", "linked/1", "add/4", "drop/2", "move/3", "rules/1", "publish/0", "revert/0",
            "send/2", "tick/0", "state/1", "where/1", "header/1", "end/2", "arriving/2", "nextArriving/3",
            "ending/2", "visiting/2", "differing/1", "deciding/2", "needless/2");
    private static final Set<String> CONSTANTS = Set.of("BAD", "NONE", "FULL", "BUSY");
    private static final Set<Class<?>> NUMBERS = Set.of(
            int.class, long.class, short.class, byte.class, char.class, boolean.class);

    private static int wrong = 0;

    private static void due(String what, boolean holds) {
        if (!holds) {
            wrong++;
            System.out.println("face: " + what);
        }
    }

    private static void classItself() {
        Class<?> c = FlowFabric.class;
        due("the class is public and final", Modifier.isPublic(c.getModifiers()) && Modifier.isFinal(c.getModifiers()));
        due("the class has no package", c.getPackageName().isEmpty());
        due("the class has no nested class", c.getDeclaredClasses().length == 0);
        due("the class implements nothing", c.getInterfaces().length == 0 && c.getSuperclass() == Object.class);
        Constructor<?>[] all = c.getDeclaredConstructors();
        due("one constructor", all.length == 1);
        due("public, without parameters", Modifier.isPublic(all[0].getModifiers()) && all[0].getParameterCount() == 0);
    }

    private static void methods() {
        Set<String> open = new TreeSet<>();
        Set<String> openNames = new HashSet<>();
        Set<String> hiddenNames = new HashSet<>();
        for (Method m : FlowFabric.class.getDeclaredMethods()) {
            due(m.getName() + " takes at most seven", m.getParameterCount() <= 7);
            if (Modifier.isPrivate(m.getModifiers())) {
                hiddenNames.add(m.getName());
                continue;
            }
            due(m.getName() + " is public, of the object", Modifier.isPublic(m.getModifiers())
                    && !Modifier.isStatic(m.getModifiers()));
            due(m.getName() + " answers int", m.getReturnType() == int.class);
            due(m.getName() + " takes ints", Arrays.stream(m.getParameterTypes()).allMatch(t -> t == int.class));
            open.add(m.getName() + "/" + m.getParameterCount());
            openNames.add(m.getName());
        }
        due("the public methods are " + open, open.equals(new TreeSet<>(METHODS)));
        hiddenNames.retainAll(openNames);
        due("private methods with public names: " + hiddenNames, hiddenNames.isEmpty());
    }

    private static void fields() {
        Set<String> open = new HashSet<>();
        int held = 0;
        for (Field f : FlowFabric.class.getDeclaredFields()) {
            int m = f.getModifiers();
            Class<?> t = f.getType();
            if (!Modifier.isPrivate(m)) {
                open.add(f.getName());
                due(f.getName() + " is a public constant",
                        Modifier.isPublic(m) && Modifier.isStatic(m) && t == int.class);
            }
            if (Modifier.isStatic(m)) {
                due(f.getName() + " is a constant of int or long",
                        Modifier.isFinal(m) && (t == int.class || t == long.class));
            } else {
                held++;
                due(f.getName() + " is of numbers", NUMBERS.contains(t.isArray() ? t.getComponentType() : t));
            }
        }
        due("the public constants are " + open, open.equals(CONSTANTS));
        due("at most forty fields", held <= 40);
    }

    public static void main(String[] args) {
        classItself();
        methods();
        fields();
        if (wrong > 0) {
            System.exit(1);
        }
    }
}
