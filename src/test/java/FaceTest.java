import java.lang.reflect.Constructor;
import java.lang.reflect.Field;
import java.lang.reflect.Method;
import java.lang.reflect.Modifier;
import java.util.Arrays;
import java.util.TreeSet;

/** The public face: just the constant, the constructor and the methods of the document. */
final class FaceTest {
    private static final Due due = new Due("FaceTest");
    private static final String[] FACE = {
        "NONE int", "EffectNodes()", "clear() void", "function(int,int,int) int", "effect(int,int,int) void",
        "atom(int,int) int", "let(int,int,int) int", "rec(int,int,int,int,int) int", "choice(int,int,int) int",
        "fn(int,int,int) int", "clause(int,int,int,int) int", "handle(int,int,int,int) int", "two(int,int,int) int",
        "call(int,int) int", "perform(int,int) int", "check(int) int", "fault(int) int", "type(int,int) int",
        "fits(int,int) boolean", "start() void", "run(int) int", "state(int) int",
    };

    public static void main(String[] args) {
        TreeSet<String> seen = new TreeSet<>();
        TreeSet<String> publicNames = new TreeSet<>();
        for (Method m : EffectNodes.class.getDeclaredMethods()) {
            if (!Modifier.isPrivate(m.getModifiers())) {
                seen.add(m.getName() + parameters(m.getParameterTypes()) + " " + m.getReturnType().getName());
                publicNames.add(m.getName());
            }
        }
        for (Field f : EffectNodes.class.getDeclaredFields()) {
            if (!Modifier.isPrivate(f.getModifiers())) {
                seen.add(f.getName() + " " + f.getType().getName());
            }
        }
        for (Constructor<?> c : EffectNodes.class.getDeclaredConstructors()) {
            seen.add(c.getName() + parameters(c.getParameterTypes()));
        }
        due.is("the face", new TreeSet<>(Arrays.asList(FACE)), () -> seen);
        due.is("public and final", true, () -> Modifier.isPublic(EffectNodes.class.getModifiers())
                && Modifier.isFinal(EffectNodes.class.getModifiers()));
        for (Class<?> inner : EffectNodes.class.getDeclaredClasses()) {
            due.is(inner.getName() + " is static", true, () -> Modifier.isStatic(inner.getModifiers()));
            for (Method m : inner.getDeclaredMethods()) {
                due.is(m + " bears a public name", false, () -> publicNames.contains(m.getName()));
            }
        }
        due.end();
    }

    private static String parameters(Class<?>[] types) {
        StringBuilder all = new StringBuilder("(");
        for (int i = 0; i < types.length; i++) {
            all.append(i == 0 ? "" : ",").append(types[i].getName());
        }
        return all.append(")").toString();
    }
}
