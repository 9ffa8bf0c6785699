import java.lang.reflect.Constructor;
import java.lang.reflect.Field;
import java.lang.reflect.Method;
import java.lang.reflect.Modifier;
import java.util.Set;
import java.util.TreeSet;

/** The document's public face, whole and with nothing beside it (rule 1 of LANGUAGE.md). */
public final class FaceTest {
    public static void main(String[] args) {
        Check check = new Check();
        check.due("BAD_COALITION", CoalitionValues.BAD_COALITION, -1);
        check.due("BAD_WORTH", CoalitionValues.BAD_WORTH, -2);
        check.due("BAD_PLAYER", CoalitionValues.BAD_PLAYER, -3);

        Set<String> due = new TreeSet<>(Set.of(
                "public final class CoalitionValues",
                "public static final int CoalitionValues.BAD_COALITION",
                "public static final int CoalitionValues.BAD_WORTH",
                "public static final int CoalitionValues.BAD_PLAYER",
                "public CoalitionValues()",
                "public int CoalitionValues.worth(int,int)",
                "public int CoalitionValues.pay(int,int)",
                "public int CoalitionValues.weigh(int,int)",
                "public int CoalitionValues.exchange(int,int)",
                "public int CoalitionValues.orderValue(int)",
                "public int CoalitionValues.swingValue(int)",
                "public int CoalitionValues.own(int)",
                "public int CoalitionValues.complaint()",
                "public boolean CoalitionValues.inCore()",
                "public boolean CoalitionValues.convex()",
                "public boolean CoalitionValues.superadditive()",
                "public boolean CoalitionValues.alike(int,int)",
                "public int CoalitionValues.bestSplit()"));
        Set<String> found = found();
        for (String member : due) {
            check.due("has " + member, found.contains(member), true);
        }
        for (String member : found) {
            check.due("may have " + member, due.contains(member), true);
        }
        namesAreNotShared(check);
        staticsAreConstants(check);
        check.due("nested classes", CoalitionValues.class.getDeclaredClasses().length, 0);
        check.end();
    }

    /** Rule 1: "No private method bears the name of a public one." */
    private static void namesAreNotShared(Check check) {
        Set<String> names = new TreeSet<>();
        for (Method method : CoalitionValues.class.getDeclaredMethods()) {
            check.due("the name " + method.getName() + " stands once", names.add(method.getName()), true);
        }
    }

    /** Rule 5: "Static fields are compile-time constants of int or long alone." */
    private static void staticsAreConstants(Check check) {
        for (Field field : CoalitionValues.class.getDeclaredFields()) {
            if (Modifier.isStatic(field.getModifiers())) {
                boolean constant = Modifier.isFinal(field.getModifiers())
                        && (field.getType() == int.class || field.getType() == long.class);
                check.due(field.getName() + " is a constant of int or long", constant, true);
            }
        }
    }

    private static Set<String> found() {
        Class<?> face = CoalitionValues.class;
        Set<String> found = new TreeSet<>();
        found.add(face.toGenericString());
        for (Field field : face.getDeclaredFields()) {
            if (!Modifier.isPrivate(field.getModifiers())) {
                found.add(field.toString());
            }
        }
        for (Constructor<?> constructor : face.getDeclaredConstructors()) {
            found.add(constructor.toString());
        }
        for (Method method : face.getDeclaredMethods()) {
            if (!Modifier.isPrivate(method.getModifiers())) {
                found.add(method.toString());
            }
        }
        return found;
    }
}
