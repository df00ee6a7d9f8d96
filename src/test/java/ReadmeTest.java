import java.lang.reflect.Method;
import java.lang.reflect.Modifier;
import java.nio.file.Files;
import java.nio.file.Path;
import java.util.Arrays;
import java.util.HashSet;
import java.util.Set;
import java.util.regex.Matcher;
import java.util.regex.Pattern;

/** The calls that README.md shows answer what it says, and it shows every method of the class. */
public final class ReadmeTest {
    private static final Pattern CALL = Pattern.compile("x\\.(\\w+)\\((.*?)\\);\\s+// (-?\\d+)(:.*)?");

    private static int wrong = 0;

    private static void fault(String what) {
        wrong++;
        System.out.println(what);
    }

    /** A sum of products of whole numbers, such as 0 + 4 * 1. */
    private static int valueOf(String sum) {
        int total = 0;
        for (String product : sum.split("\\+")) {
            int value = 1;
            for (String factor : product.split("\\*")) {
                value *= Integer.parseInt(factor.trim());
            }
            total += value;
        }
        return total;
    }

    private static Object[] argumentsIn(String list) {
        if (list.isBlank()) {
            return new Object[0];
        }
        String[] texts = list.split(",");
        Object[] values = new Object[texts.length];
        for (int i = 0; i < texts.length; i++) {
            values[i] = valueOf(texts[i]);
        }
        return values;
    }

    private static Object answer(InputExplorer x, String name, Object[] arguments) throws Exception {
        Class<?>[] types = new Class<?>[arguments.length];
        Arrays.fill(types, int.class);
        return InputExplorer.class.getMethod(name, types).invoke(x, arguments);
    }

    public static void main(String[] args) throws Exception {
        InputExplorer x = new InputExplorer();
        Set<String> shown = new HashSet<>();
        for (String line : Files.readAllLines(Path.of("README.md"))) {
            Matcher call = CALL.matcher(line);
            if (call.matches()) {
                shown.add(call.group(1));
                Object got = answer(x, call.group(1), argumentsIn(call.group(2)));
                if (!got.equals(Integer.valueOf(call.group(3)))) {
                    fault("README.md: " + line + " - answered " + got);
                }
            } else if (line.startsWith("x.")) {
                fault("README.md: a call without its answer: " + line);
            }
        }
        for (Method method : InputExplorer.class.getDeclaredMethods()) {
            if (Modifier.isPublic(method.getModifiers()) && !shown.contains(method.getName())) {
                fault("README.md does not show " + method.getName());
            }
        }
        System.out.println(wrong == 0 ? "README.md tells the answers as they are" : wrong + " faults");
        if (wrong != 0) {
            System.exit(1);
        }
    }
}
