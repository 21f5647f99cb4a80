import java.lang.reflect.Constructor;
import java.lang.reflect.Field;
import java.lang.reflect.Method;
import java.lang.reflect.Modifier;
import java.util.Set;
import java.util.TreeSet;

/** The public face of the document, and rule 1 of LANGUAGE.md: nothing else can be seen from outside. */
public final class FaceTest {
    private static final String[] CALLS = {
        "addLayer/5", "removeLayer/2", "strip/1", "settle/0", "set/2", "run/1", "take/1", "restore/1", "undo/0",
        "append/1", "clearText/0", "load/0", "count/1", "block/2", "layer/3", "account/1", "density/2", "pressure/2",
        "why/1", "valley/1", "stepsToBalance/1", "bareTop/1", "topIn/2", "uneven/2",
    };

    public static void main(String[] args) {
        Set<String> calls = new TreeSet<>();
        Set<String> names = new TreeSet<>();
        for (Method method : CrustBlocks.class.getDeclaredMethods()) {
            if (method.isSynthetic()) {
                continue;
            }
            if (Modifier.isPrivate(method.getModifiers())) {
                names.add(method.getName());
                continue;
            }
            Checks.due(method + " is public and not static", method.getModifiers(), Modifier.PUBLIC);
            Checks.dueSame(method + " answers", method.getReturnType().getName(), "int");
            for (Class<?> type : method.getParameterTypes()) {
                Checks.dueSame(method + " takes", type.getName(), "int");
            }
            calls.add(method.getName() + "/" + method.getParameterCount());
        }
        Checks.dueSame("methods", calls.toString(), new TreeSet<>(Set.of(CALLS)).toString());
        for (String call : CALLS) {
            Checks.due("private " + call, names.contains(call.substring(0, call.indexOf('/'))) ? 1 : 0, 0);
        }
        fields();
        Checks.due("the class", CrustBlocks.class.getModifiers(), Modifier.PUBLIC | Modifier.FINAL);
        Checks.due("constructors", CrustBlocks.class.getDeclaredConstructors().length, 1);
        for (Constructor<?> constructor : CrustBlocks.class.getDeclaredConstructors()) {
            Checks.due("the constructor", constructor.getModifiers(), Modifier.PUBLIC);
            Checks.due("its arguments", constructor.getParameterCount(), 0);
        }
        for (Class<?> inside : CrustBlocks.class.getDeclaredClasses()) {
            Checks.due(inside + " is static", inside.getModifiers() & Modifier.STATIC, Modifier.STATIC);
            Checks.due(inside + " is hidden", inside.getModifiers() & (Modifier.PUBLIC | Modifier.PROTECTED), 0);
        }
        Checks.end();
    }

    private static void fields() {
        Set<String> constants = new TreeSet<>();
        for (Field field : CrustBlocks.class.getDeclaredFields()) {
            if (!Modifier.isPrivate(field.getModifiers())) {
                Checks.due(field + "", field.getModifiers(), Modifier.PUBLIC | Modifier.STATIC | Modifier.FINAL);
                Checks.dueSame(field + "", field.getType().getName(), "int");
                constants.add(field.getName());
            }
        }
        Checks.dueSame("constants", constants.toString(),
            "[CAPACITY_EXCEEDED, ILLEGAL_STATE, INVALID_ARGUMENT, NONE]");
        Checks.due("INVALID_ARGUMENT", CrustBlocks.INVALID_ARGUMENT, -100000001);
        Checks.due("ILLEGAL_STATE", CrustBlocks.ILLEGAL_STATE, -100000002);
        Checks.due("CAPACITY_EXCEEDED", CrustBlocks.CAPACITY_EXCEEDED, -100000003);
        Checks.due("NONE", CrustBlocks.NONE, -100000009);
    }
}
