import java.lang.reflect.Field;
import java.lang.reflect.Member;
import java.lang.reflect.Method;
import java.lang.reflect.Modifier;
import java.util.Arrays;
import java.util.HashSet;
import java.util.Set;
import java.util.TreeSet;

/** Holds the class to the document's public face and to what reflection sees of LANGUAGE.md. */
public final class FaceTest {
    private static final String[] METHODS = {"create 4", "set 4", "paint 4", "get 3", "copy 2", "turn 2", "mirror 1",
        "crop 3", "shrink 3", "level 3", "save 3", "load 2", "convert 3", "damage 2", "cut 2", "duplicate 2",
        "image 2", "file 2", "same 2"};
    private static final Set<Class<?>> TYPES = Set.of(int.class, long.class, short.class, byte.class, char.class,
        boolean.class, int[].class, long[].class, short[].class, byte[].class, char[].class, boolean[].class);

    private static int wrong = 0;

    private static void due(String what, Object got, Object want) {
        if (!got.equals(want)) {
            wrong++;
            System.out.println(what + " is " + got + ", due is " + want);
        }
    }

    private static boolean isSeen(Member member) {
        return !Modifier.isPrivate(member.getModifiers());
    }

    private static void methods(Class<?> face) {
        Set<String> seen = new TreeSet<>();
        Set<String> seenNames = new HashSet<>();
        for (Method method : face.getDeclaredMethods()) {
            if (isSeen(method)) {
                seen.add(method.getName() + " " + method.getParameterCount());
                seenNames.add(method.getName());
                due(method + " public", Modifier.isPublic(method.getModifiers()), true);
                due(method + " static", Modifier.isStatic(method.getModifiers()), false);
                due(method + " answers", method.getReturnType(), int.class);
                for (Class<?> type : method.getParameterTypes()) {
                    due(method + " takes", type, int.class);
                }
            }
        }
        due("the methods", seen, new TreeSet<>(Arrays.asList(METHODS)));
        for (Method method : face.getDeclaredMethods()) {
            due(method + " has at most seven parameters", method.getParameterCount() <= 7, true);
            due(method + " bears a public name", !isSeen(method) && seenNames.contains(method.getName()), false);
            due(method + " answers an array", method.getReturnType().isArray(), false);
        }
    }

    private static void fields(Class<?> face) throws IllegalAccessException {
        Set<String> seen = new TreeSet<>();
        for (Field field : face.getDeclaredFields()) {
            due(field + " has a type that is allowed", TYPES.contains(field.getType()), true);
            if (Modifier.isStatic(field.getModifiers())) {
                due(field + " is a number", field.getType() == int.class || field.getType() == long.class, true);
                due(field + " is final", Modifier.isFinal(field.getModifiers()), true);
            }
            if (isSeen(field)) {
                due(field + " public static final", field.getModifiers(),
                    Modifier.PUBLIC | Modifier.STATIC | Modifier.FINAL);
                seen.add(field.getName() + " " + field.getInt(null));
            }
        }
        due("the constants", seen, new TreeSet<>(Arrays.asList("REFUSED -1", "NONE -2", "BAD -3")));
    }

    public static void main(String[] args) throws IllegalAccessException {
        Class<?> face = ImageVault.class;
        due("the class", face.getModifiers(), Modifier.PUBLIC | Modifier.FINAL);
        due("its parent", face.getSuperclass(), Object.class);
        due("its interfaces", face.getInterfaces().length, 0);
        due("its nested classes", face.getDeclaredClasses().length, 0);
        due("its constructors", face.getDeclaredConstructors().length, 1);
        due("its public constructors", face.getConstructors().length, 1);
        due("the constructor's parameters", face.getDeclaredConstructors()[0].getParameterCount(), 0);
        methods(face);
        fields(face);
        System.out.println(wrong == 0 ? "the face is as due" : wrong + " parts of the face are not as due");
        if (wrong != 0) {
            System.exit(1);
        }
    }
}
