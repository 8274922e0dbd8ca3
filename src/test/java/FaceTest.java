import java.lang.reflect.Constructor;
import java.lang.reflect.Field;
import java.lang.reflect.Method;
import java.lang.reflect.Modifier;
import java.util.Arrays;
import java.util.Set;
import java.util.TreeSet;

/** The public face is the document's, with nothing missing and nothing beside it that is not private. */
public final class FaceTest {
    private static final Set<String> DUE = new TreeSet<>(Arrays.asList(
            "COMPLETE = 0", "PREFERRED = 1", "STABLE = 2", "SEMISTABLE = 3", "BAD = -1", "NONE = -2",
            "public ArgumentLabeller(int)",
            "public int ArgumentLabeller.attack(int,int)",
            "public int ArgumentLabeller.withdraw(int,int)",
            "public boolean ArgumentLabeller.attacks(int,int)",
            "public int ArgumentLabeller.grounded()",
            "public int ArgumentLabeller.count(int)",
            "public int ArgumentLabeller.extension(int,int)",
            "public int ArgumentLabeller.inSome(int)",
            "public int ArgumentLabeller.inEvery(int)",
            "public int ArgumentLabeller.clear()"));

    public static void main(String[] args) throws IllegalAccessException {
        Checks checks = new Checks();
        Class<?> face = ArgumentLabeller.class;
        checks.due("public final", face.getModifiers(), Modifier.PUBLIC | Modifier.FINAL);
        checks.due("extends nothing", face.getSuperclass() == Object.class, true);
        checks.due("implements nothing", face.getInterfaces().length, 0);
        checks.due("no class within", face.getDeclaredClasses().length, 0);
        constantsCanBeCaseLabels(checks);
        Set<String> open = openMembers(face);
        for (String member : DUE) {
            checks.due("has " + member, open.contains(member), true);
        }
        for (String member : open) {
            checks.due("may have " + member, DUE.contains(member), true);
        }
        checks.end();
    }

    /** Compiles only if the six are constants to the compiler and no two of them are equal. */
    private static void constantsCanBeCaseLabels(Checks checks) {
        for (int value = -2; value <= 3; value++) {
            switch (value) {
                case ArgumentLabeller.COMPLETE:
                case ArgumentLabeller.PREFERRED:
                case ArgumentLabeller.STABLE:
                case ArgumentLabeller.SEMISTABLE:
                    checks.due("kind " + value, value >= 0, true);
                    break;
                case ArgumentLabeller.BAD:
                case ArgumentLabeller.NONE:
                    checks.due("no kind " + value, value < 0, true);
                    break;
                default:
                    checks.due("a constant for", value + "", "one of the six");
                    break;
            }
        }
    }

    private static Set<String> openMembers(Class<?> face) throws IllegalAccessException {
        Set<String> open = new TreeSet<>();
        for (Field field : face.getDeclaredFields()) {
            if (!Modifier.isPrivate(field.getModifiers())) {
                boolean constant = field.getType() == int.class
                        && field.getModifiers() == (Modifier.PUBLIC | Modifier.STATIC | Modifier.FINAL);
                open.add(constant ? field.getName() + " = " + field.getInt(null) : field.toString());
            }
        }
        for (Constructor<?> constructor : face.getDeclaredConstructors()) {
            if (!Modifier.isPrivate(constructor.getModifiers())) {
                open.add(constructor.toString());
            }
        }
        for (Method method : face.getDeclaredMethods()) {
            if (!Modifier.isPrivate(method.getModifiers())) {
                open.add(method.toString());
            }
        }
        return open;
    }
}
