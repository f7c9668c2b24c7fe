import java.lang.reflect.Constructor;
import java.lang.reflect.Field;
import java.lang.reflect.Method;
import java.lang.reflect.Modifier;
import java.util.HashMap;
import java.util.HashSet;
import java.util.Map;
import java.util.Set;

/** The class has the document's face, and shows nothing else. */
public final class FaceTest {
    private static final String[] NO_ARGUMENT = {"meters", "revise", "revisions", "clearRevisions", "undo", "clearText", "textFault", "load", "digest"};
    private static final String[] ONE_ARGUMENT = {"addMeter", "shareBits", "share", "imbalance", "suspect", "type"};
    private static final String[] TWO_ARGUMENTS = {"setRules", "meter", "child", "removeReading", "reading", "raw", "status", "energy", "quality",
        "day", "loss", "balance", "nextFault", "billed", "part", "billOf"};
    private static final String[] THREE_ARGUMENTS = {"setMeter", "setRegister", "setReading", "setAll", "imbalanceWith", "changed"};

    public static void main(String[] args) throws ReflectiveOperationException {
        Checks.due("public and final", MeterTree.class.getModifiers() & (Modifier.PUBLIC | Modifier.FINAL), Modifier.PUBLIC | Modifier.FINAL);
        constants();
        constructors();
        methods();
        Checks.end("FaceTest");
    }

    private static void constants() throws IllegalAccessException {
        Map<String, Integer> due = new HashMap<>();
        due.put("NONE", -2000000000);
        due.put("BAD_INDEX", -2000000001);
        due.put("BAD_VALUE", -2000000002);
        due.put("BAD_STATE", -2000000003);
        due.put("FULL", -2000000004);
        for (Field field : MeterTree.class.getDeclaredFields()) {
            if (!Modifier.isPrivate(field.getModifiers())) {
                int want = Modifier.PUBLIC | Modifier.STATIC | Modifier.FINAL;
                Checks.due(field + " is a constant", field.getModifiers(), want);
                Checks.due(field + " is known", due.containsKey(field.getName()) ? 1 : 0, 1);
                Checks.due(field.getName(), field.getInt(null), due.getOrDefault(field.getName(), 0));
                due.remove(field.getName());
            }
        }
        Checks.due("constants that are not there", due.size(), 0);
    }

    private static void constructors() {
        Constructor<?>[] found = MeterTree.class.getDeclaredConstructors();
        Checks.due("constructors", found.length, 1);
        Checks.due("without arguments", found[0].getParameterCount(), 0);
        Checks.due("public", found[0].getModifiers(), Modifier.PUBLIC);
    }

    private static void methods() {
        Map<String, Integer> due = new HashMap<>();
        String[][] names = {NO_ARGUMENT, ONE_ARGUMENT, TWO_ARGUMENTS, THREE_ARGUMENTS};
        for (int arguments = 0; arguments < names.length; arguments++) {
            for (String name : names[arguments]) {
                due.put(name, arguments);
            }
        }
        Checks.due("methods of the face", due.size(), 37);
        Set<String> seen = new HashSet<>();
        for (Method method : MeterTree.class.getDeclaredMethods()) {
            boolean face = due.containsKey(method.getName());
            if (!face) {
                Checks.due(method + " is private", method.getModifiers() & Modifier.PRIVATE, Modifier.PRIVATE);
                continue;
            }
            Checks.due(method + " stands once", seen.add(method.getName()) ? 1 : 0, 1);
            Checks.due(method + " is public", method.getModifiers(), Modifier.PUBLIC);
            Checks.due(method + " has its arguments", method.getParameterCount(), due.get(method.getName()));
            for (Class<?> type : method.getParameterTypes()) {
                Checks.due(method + " takes ints", type == int.class ? 1 : 0, 1);
            }
            Class<?> answer = method.getName().equals("digest") ? long.class : int.class;
            Checks.due(method + " has its answer", method.getReturnType() == answer ? 1 : 0, 1);
        }
        Checks.due("methods that are there", seen.size(), 37);
    }
}
