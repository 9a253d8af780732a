import java.lang.reflect.Constructor;
import java.lang.reflect.Field;
import java.lang.reflect.Method;
import java.lang.reflect.Modifier;
import java.util.Set;
import java.util.TreeSet;

/** The public face is the document's and nothing more, and the fields keep to LANGUAGE.md. */
public final class FaceTest {
    private static final Set<String> FACE = Set.of(
            "constant UNDER = 1", "constant OVER = 2", "constant LEAVES = 4", "constant MIXED = 8",
            "constant BAD = -1", "constant FULL = -2", "constant NONE = 0", "constant DONE = 1",
            "constant TIRED = 2",
            "public StackCompiler()",
            "public int StackCompiler.emit(int,int)", "public int StackCompiler.patch(int,int,int)",
            "public void StackCompiler.clear()", "public int StackCompiler.length()",
            "public boolean StackCompiler.fits()", "public int StackCompiler.faults(int)",
            "public int StackCompiler.heights(int)", "public int StackCompiler.run(int,int)",
            "public int StackCompiler.outcome()", "public int StackCompiler.outs()",
            "public int StackCompiler.lastOut(int)", "public int StackCompiler.local(int)",
            "public int StackCompiler.height()", "public int StackCompiler.cell(int)");

    private static final Set<Class<?>> TYPES = Set.of(int.class, long.class, short.class, byte.class,
            char.class, boolean.class, int[].class, long[].class, short[].class, byte[].class,
            char[].class, boolean[].class);

    public static void main(String[] args) throws Exception {
        Class<?> it = StackCompiler.class;
        Set<String> seen = new TreeSet<>();
        Set<String> publicNames = new TreeSet<>();
        Set<String> privateNames = new TreeSet<>();
        for (Constructor<?> made : it.getDeclaredConstructors()) {
            seen.add(made.toString());
        }
        for (Method method : it.getDeclaredMethods()) {
            if (Modifier.isPrivate(method.getModifiers())) {
                privateNames.add(method.getName());
            } else {
                seen.add(method.toString());
                publicNames.add(method.getName());
            }
        }
        int fields = 0;
        for (Field field : it.getDeclaredFields()) {
            boolean constant = Modifier.isStatic(field.getModifiers());
            fields += constant ? 0 : 1;
            Checks.due("the type of " + field + " allowed", TYPES.contains(field.getType()), true);
            if (constant) {
                Checks.due(field + " final and not an array",
                        Modifier.isFinal(field.getModifiers()) && !field.getType().isArray(), true);
            }
            if (!Modifier.isPrivate(field.getModifiers())) {
                Checks.due(field + " constant", constant, true);
                seen.add("constant " + field.getName() + " = " + field.getInt(null));
            }
        }
        Checks.due("the face " + seen + " equal to " + new TreeSet<>(FACE), seen.equals(FACE), true);
        privateNames.retainAll(publicNames);
        Checks.due("private methods with a public name " + privateNames, privateNames.size(), 0);
        Checks.due("at most forty fields", fields <= 40, true);
        Checks.due("final", Modifier.isFinal(it.getModifiers()), true);
        Checks.due("nested classes", it.getDeclaredClasses().length, 0);
        Checks.finish();
    }
}
