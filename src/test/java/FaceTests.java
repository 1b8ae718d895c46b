import java.lang.reflect.Constructor;
import java.lang.reflect.Field;
import java.lang.reflect.Method;
import java.lang.reflect.Modifier;
import java.util.Set;
import java.util.TreeSet;

// The public face is the document's and no more, and the members keep to LANGUAGE.md.
public final class FaceTests {
    private static int wrong = 0;

    private static void must(boolean holds, String what) {
        if (!holds) {
            wrong++;
            System.out.println("not so: " + what);
        }
    }

    private static final Set<String> FACE = Set.of(
        "public static final int PlanLayers.BAD",
        "public static final int PlanLayers.FULL",
        "public static final int PlanLayers.NONE",
        "public PlanLayers()",
        "public int PlanLayers.action(int,int,int)",
        "public int PlanLayers.drop(int)",
        "public boolean PlanLayers.start(int)",
        "public boolean PlanLayers.clash(int,int)",
        "public int PlanLayers.fewest(int)",
        "public int PlanLayers.within(int)",
        "public boolean PlanLayers.together(int,int,int)",
        "public boolean PlanLayers.begins(int,int)",
        "public boolean PlanLayers.advance(int)",
        "public int PlanLayers.state()");

    private static final Set<Class<?>> TYPES = Set.of(int.class, long.class, short.class, byte.class,
        char.class, boolean.class, int[].class, long[].class, short[].class, byte[].class,
        char[].class, boolean[].class);

    private static void checkFields(Class<?> c, Set<String> seen) {
        int fields = 0;
        for (Field f : c.getDeclaredFields()) {
            if (!Modifier.isPrivate(f.getModifiers())) {
                seen.add(f.toString());
            }
            must(TYPES.contains(f.getType()), "the type of field " + f.getName() + " is allowed");
            if (Modifier.isStatic(f.getModifiers())) {
                must(Modifier.isFinal(f.getModifiers()) && (f.getType() == int.class || f.getType() == long.class),
                    "static field " + f.getName() + " is a constant");
            } else {
                fields++;
            }
        }
        must(fields <= 40, "there are at most forty fields");
    }

    private static void checkMethods(Class<?> c, Set<String> seen) {
        Set<String> publicNames = new TreeSet<>();
        for (Method m : c.getMethods()) {
            if (m.getDeclaringClass() == c) {
                publicNames.add(m.getName());
            }
        }
        for (Method m : c.getDeclaredMethods()) {
            if (!Modifier.isPrivate(m.getModifiers())) {
                seen.add(m.toString());
            } else {
                must(!publicNames.contains(m.getName()), "private method " + m.getName() + " has a name of its own");
            }
            must(m.getParameterCount() <= 7, m.getName() + " takes at most seven parameters");
            must(!m.getReturnType().isArray(), m.getName() + " answers no array");
        }
    }

    public static void main(String[] args) {
        Class<?> c = PlanLayers.class;
        Set<String> seen = new TreeSet<>();
        for (Constructor<?> made : c.getDeclaredConstructors()) {
            seen.add(made.toString());
        }
        checkFields(c, seen);
        checkMethods(c, seen);
        must(seen.equals(FACE), "the face is the document's; it is " + seen);
        must(Modifier.isPublic(c.getModifiers()) && Modifier.isFinal(c.getModifiers()), "the class is public and final");
        must(c.getSuperclass() == Object.class && c.getInterfaces().length == 0, "the class extends nothing");
        must(c.getDeclaredClasses().length == 0, "there is no nested class");
        must(PlanLayers.BAD == -1 && PlanLayers.FULL == -2 && PlanLayers.NONE == -3, "the constants are the document's");
        System.out.println(wrong == 0 ? "the face is as due" : wrong + " things are not as due");
        if (wrong != 0) {
            System.exit(1);
        }
    }
}
