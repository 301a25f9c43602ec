import java.lang.reflect.InvocationTargetException;
import java.lang.reflect.Method;
import java.lang.reflect.Modifier;
import java.nio.charset.StandardCharsets;
import java.nio.file.Files;
import java.nio.file.Path;
import java.util.List;
import java.util.Set;
import java.util.TreeSet;
import java.util.regex.Matcher;
import java.util.regex.Pattern;

/** Does what README.md shows, call by call: each must answer what stands behind it, and no call may be missing. */
public final class ReadmeTest {
    private static final Pattern TEXT = Pattern.compile("feed\\(x, \"([^\"]*)\"\\);");
    private static final Pattern CALL =
        Pattern.compile("x\\.(\\w+)\\(([^)]*)\\); +// (-?\\d+|true|false|NoSuchElementException)\\b.*");

    public static void main(String[] args) throws Exception {
        List<String> lines = Files.readAllLines(Path.of(System.getProperty("wall.readme")), StandardCharsets.UTF_8);
        int begin = lines.indexOf("WallLottery x = new WallLottery();");
        Check.due("README shows the class in use", begin >= 0, true);
        WallLottery x = new WallLottery();
        Set<String> shown = new TreeSet<>();
        for (int i = begin + 1; i < lines.size() && !lines.get(i).startsWith("```"); i++) {
            carryOut(x, lines.get(i), shown);
        }
        Check.due("README shows all calls: " + shown, shown.equals(face()), true);
        Check.end();
    }

    private static void carryOut(WallLottery x, String line, Set<String> shown) throws Exception {
        Matcher text = TEXT.matcher(line);
        Matcher call = CALL.matcher(line);
        if (text.matches()) {
            Check.feed(x, text.group(1));
        } else if (call.matches()) {
            shown.add(call.group(1));
            String got = answer(x, call.group(1), call.group(2));
            if (!got.equals(call.group(3))) {
                System.out.println(line + " answered " + got);
            }
            Check.due(line, got.equals(call.group(3)), true);
        } else {
            Check.due("README, a line that is no call: " + line, line.isEmpty() || line.startsWith("//"), true);
        }
    }

    private static String answer(WallLottery x, String name, String told) throws Exception {
        String[] parts = told.isEmpty() ? new String[0] : told.split(", ");
        for (Method m : WallLottery.class.getMethods()) {
            if (m.getName().equals(name) && m.getParameterCount() == parts.length) {
                Object[] values = new Object[parts.length];
                for (int i = 0; i < parts.length; i++) {
                    values[i] = value(m.getParameterTypes()[i], parts[i]);
                }
                try {
                    return m.invoke(x, values).toString();
                } catch (InvocationTargetException e) {
                    return e.getCause().getClass().getSimpleName();
                }
            }
        }
        return "no such call";
    }

    private static Object value(Class<?> type, String told) {
        if (type == boolean.class) {
            return Boolean.valueOf(told);
        }
        long number = told.equals("WallLottery.NONE") ? WallLottery.NONE : Long.decode(told.replace("L", ""));
        return type == long.class ? (Object) number : (Object) (int) number;
    }

    private static Set<String> face() {
        Set<String> names = new TreeSet<>();
        for (Method m : WallLottery.class.getDeclaredMethods()) {
            if (Modifier.isPublic(m.getModifiers())) {
                names.add(m.getName());
            }
        }
        return names;
    }
}
