import java.lang.reflect.Constructor;
import java.lang.reflect.Field;
import java.lang.reflect.Method;
import java.lang.reflect.Modifier;
import java.util.Set;
import java.util.TreeSet;

/** The public face is the document's, and nothing beside it can be seen from outside. */
public final class FaceTest {
    private static final Set<String> FACE = new TreeSet<>(Set.of(
        "IntegerBox()",
        "int range(int,int,int)", "int limit(int,int)", "int relax(int,int)",
        "int turn(int,boolean)", "int drop()", "int points()", "int first(int)",
        "int greatest(int)", "boolean follows(int,int)", "int numbers(int)",
        "boolean idle(int)", "int core()", "int tight(int)",
        "int BAD_VARIABLE", "int BAD_FACTOR", "int BAD_NUMBER", "int FULL", "int BAD_LIMIT",
        "int NONE"));

    public static void main(String[] args) {
        Due d = new Due();
        Set<String> seen = new TreeSet<>();
        Set<String> publicNames = new TreeSet<>();
        Set<String> privateNames = new TreeSet<>();
        for (Constructor<?> c : IntegerBox.class.getDeclaredConstructors()) {
            d.due(c + " is public", Modifier.isPublic(c.getModifiers()), true);
            seen.add("IntegerBox" + parameters(c.getParameterTypes()));
        }
        for (Method m : IntegerBox.class.getDeclaredMethods()) {
            if (Modifier.isPrivate(m.getModifiers())) {
                privateNames.add(m.getName());
                continue;
            }
            publicNames.add(m.getName());
            d.due(m + " is public", Modifier.isPublic(m.getModifiers()), true);
            d.due(m + " is static", Modifier.isStatic(m.getModifiers()), false);
            seen.add(m.getReturnType() + " " + m.getName() + parameters(m.getParameterTypes()));
        }
        for (Field field : IntegerBox.class.getDeclaredFields()) {
            int modifiers = field.getModifiers();
            if (!Modifier.isPrivate(modifiers)) {
                boolean constant = Modifier.isPublic(modifiers) && Modifier.isStatic(modifiers)
                    && Modifier.isFinal(modifiers);
                d.due(field + " is a public constant", constant, true);
                seen.add(field.getType() + " " + field.getName());
            }
        }
        d.due("the face " + seen + " is " + FACE, seen.equals(FACE), true);
        privateNames.retainAll(publicNames);
        d.due("private methods with a public name: " + privateNames, privateNames.size(), 0);
        d.due("the class is public", Modifier.isPublic(IntegerBox.class.getModifiers()), true);
        d.due("the class is final", Modifier.isFinal(IntegerBox.class.getModifiers()), true);
        d.due("BAD_VARIABLE", IntegerBox.BAD_VARIABLE, -1);
        d.due("BAD_FACTOR", IntegerBox.BAD_FACTOR, -2);
        d.due("BAD_NUMBER", IntegerBox.BAD_NUMBER, -3);
        d.due("FULL", IntegerBox.FULL, -4);
        d.due("BAD_LIMIT", IntegerBox.BAD_LIMIT, -5);
        d.due("NONE", IntegerBox.NONE, -10000);
        d.end();
    }

    private static String parameters(Class<?>[] types) {
        StringBuilder text = new StringBuilder("(");
        for (int i = 0; i < types.length; i++) {
            text.append(i == 0 ? "" : ",").append(types[i]);
        }
        return text.append(")").toString();
    }
}
