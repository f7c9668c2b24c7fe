import java.io.IOException;
import java.lang.reflect.Method;
import java.lang.reflect.Modifier;
import java.nio.file.Files;
import java.nio.file.Path;
import java.util.ArrayList;
import java.util.HashSet;
import java.util.List;
import java.util.Set;
import java.util.regex.Matcher;
import java.util.regex.Pattern;

/** The calls that README.md shows answer what stands behind them, and its table names every method. */
public final class ReadmeTest {
    /** A call, and what it answers: a number or one of the codes. */
    private static final Pattern SHOWN = Pattern.compile("    tree\\.(\\w+)\\((.*)\\); +// (-?\\d+|[A-Z_]+)(:.*)?");
    private static final Pattern WORD = Pattern.compile("\\w+");

    public static void main(String[] args) throws IOException, ReflectiveOperationException {
        List<String> page = Files.readAllLines(Path.of(System.getProperty("readme", "README.md")));
        playCalls(page);
        findNames(page);
        Checks.end("ReadmeTest");
    }

    private static void playCalls(List<String> page) throws ReflectiveOperationException {
        MeterTree tree = new MeterTree();
        int played = 0;
        for (String line : page) {
            if (line.startsWith("    tree.")) {
                Matcher shown = SHOWN.matcher(line);
                Checks.due("'" + line + "' can be read", shown.matches() ? 1 : 0, 1);
                if (shown.matches()) {
                    Checks.due("README.md: " + line, answer(tree, shown.group(1), shown.group(2)), number(shown.group(3)));
                    played++;
                }
            }
        }
        Checks.due("README.md shows calls", played > 0 ? 1 : 0, 1);
    }

    private static long answer(MeterTree tree, String name, String arguments) throws ReflectiveOperationException {
        List<Object> values = new ArrayList<>();
        List<Class<?>> types = new ArrayList<>();
        for (String argument : arguments.isEmpty() ? new String[0] : arguments.split(", ")) {
            values.add((int) number(argument));
            types.add(int.class);
        }
        Method method = MeterTree.class.getMethod(name, types.toArray(new Class<?>[0]));
        return ((Number) method.invoke(tree, values.toArray())).longValue();
    }

    /** A number, a sign between quotes, or the name of a constant. */
    private static long number(String text) throws ReflectiveOperationException {
        if (text.startsWith("'")) return text.charAt(1);
        if (Character.isUpperCase(text.charAt(0))) return MeterTree.class.getField(text).getInt(null);
        return Long.parseLong(text);
    }

    private static void findNames(List<String> page) {
        Set<String> named = new HashSet<>();
        for (String line : page) {
            if (line.startsWith("| ")) {
                Matcher word = WORD.matcher(line);
                while (word.find()) named.add(word.group());
            }
        }
        for (Method method : MeterTree.class.getDeclaredMethods()) {
            if (Modifier.isPublic(method.getModifiers())) {
                Checks.due("README.md names " + method.getName(), named.contains(method.getName()) ? 1 : 0, 1);
            }
        }
    }
}
