import java.lang.reflect.Constructor;
import java.lang.reflect.Field;
import java.lang.reflect.Method;
import java.lang.reflect.Modifier;
import java.util.Arrays;
import java.util.Set;
import java.util.TreeSet;

/** The public face: the constants, constructor and methods of the document, and no others. */
public final class FaceTest {
    private static final Checks CHECKS = new Checks();
    private static final Set<String> METHODS = Set.of(
            "founder/0", "child/2", "drop/0", "members/0", "ways/0", "inbred/1", "two/2", "three/3",
            "four/4", "pairs/4", "state/3", "related/2", "from/2", "line/1");

    public static void main(String[] args) {
        constants();
        typeAndConstructor();
        methods();
        fields();
        CHECKS.finish();
    }

    private static void constants() {
        CHECKS.due("BAD_ARG", GeneIdentity.BAD_ARG, -1);
        CHECKS.due("FULL", GeneIdentity.FULL, -2);
        CHECKS.due("NONE", GeneIdentity.NONE, -4);
    }

    private static void typeAndConstructor() {
        int modifiers = GeneIdentity.class.getModifiers();
        CHECKS.holds("the class is public and final", Modifier.isPublic(modifiers) && Modifier.isFinal(modifiers));
        CHECKS.due("nested classes", GeneIdentity.class.getDeclaredClasses().length, 0);
        Constructor<?>[] all = GeneIdentity.class.getDeclaredConstructors();
        CHECKS.due("constructors", all.length, 1);
        CHECKS.holds("the constructor is public", Modifier.isPublic(all[0].getModifiers()));
        CHECKS.due("arguments of the constructor", all[0].getParameterCount(), 0);
    }

    private static void methods() {
        Set<String> open = new TreeSet<>();
        for (Method m : GeneIdentity.class.getDeclaredMethods()) {
            if (Modifier.isPrivate(m.getModifiers())) {
                CHECKS.holds("no private method is named as a public one: " + m.getName(),
                        METHODS.stream().noneMatch(name -> name.startsWith(m.getName() + "/")));
                continue;
            }
            open.add(m.getName() + "/" + m.getParameterCount());
            CHECKS.holds(m.getName() + " is public", Modifier.isPublic(m.getModifiers()));
            CHECKS.holds(m.getName() + " is not static", !Modifier.isStatic(m.getModifiers()));
            CHECKS.holds(m.getName() + " answers an int", m.getReturnType() == int.class);
            CHECKS.holds(m.getName() + " takes ints",
                    Arrays.stream(m.getParameterTypes()).allMatch(type -> type == int.class));
        }
        CHECKS.holds("the methods are those of the document: " + open, open.equals(METHODS));
    }

    private static void fields() {
        Set<String> open = new TreeSet<>();
        for (Field f : GeneIdentity.class.getDeclaredFields()) {
            if (!Modifier.isPrivate(f.getModifiers())) {
                open.add(f.getName());
            }
            if (Modifier.isStatic(f.getModifiers())) {
                CHECKS.holds(f.getName() + " is a constant number", Modifier.isFinal(f.getModifiers())
                        && (f.getType() == int.class || f.getType() == long.class));
            }
        }
        CHECKS.holds("the open fields are the constants: " + open, open.equals(Set.of("BAD_ARG", "FULL", "NONE")));
    }
}
