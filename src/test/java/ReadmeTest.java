import java.lang.reflect.Method;
import java.nio.file.Files;
import java.nio.file.Path;
import java.util.HashMap;
import java.util.List;
import java.util.Map;
import java.util.TreeSet;
import java.util.regex.Matcher;
import java.util.regex.Pattern;

/** What README.md says: its calls answer what stands behind them, and it names each call that can be refused. */
public final class ReadmeTest {
    private static final Pattern MADE = Pattern.compile("PlaitAndBreak x = new PlaitAndBreak\\(\\);");
    private static final Pattern ASKED = Pattern.compile("x\\.(\\w+)\\((.*)\\); +// (-?\\d+)(:.*)?");
    private static final Due due = new Due();

    public static void main(String[] args) throws Exception {
        List<String> lines = Files.readAllLines(Path.of(System.getProperty("readme")));
        Map<String, Method> calls = new HashMap<>();
        for (Method method : PlaitAndBreak.class.getDeclaredMethods()) {
            calls.put(method.getName(), method);
        }
        due.isTrue("there are examples", ask(lines, calls) > 40);
        refusals(String.join("\n", lines));
        due.end();
    }

    private static int ask(List<String> lines, Map<String, Method> calls) throws Exception {
        PlaitAndBreak x = null;
        int asked = 0;
        for (String line : lines) {
            Matcher found = ASKED.matcher(line);
            if (MADE.matcher(line).matches()) {
                x = new PlaitAndBreak();
            } else if (found.matches()) {
                Method call = calls.get(found.group(1));
                due.is(line, (Integer) call.invoke(x, arguments(call, found.group(2))), Long.parseLong(found.group(3)));
                asked++;
            } else {
                due.isTrue("no example without an answer: " + line, !line.startsWith("x."));
            }
        }
        return asked;
    }

    private static Object[] arguments(Method call, String text) {
        Class<?>[] types = call.getParameterTypes();
        String[] words = text.isEmpty() ? new String[0] : text.split(", ");
        due.is("arguments of " + call.getName(), words.length, types.length);
        Object[] arguments = new Object[types.length];
        for (int i = 0; i < types.length; i++) {
            if (types[i] == boolean.class) {
                arguments[i] = Boolean.valueOf(words[i]);
            } else if (types[i] == long.class) {
                arguments[i] = Long.decode(words[i].replace("L", ""));
            } else {
                arguments[i] = Integer.decode(words[i]);
            }
        }
        return arguments;
    }

    private static void refusals(String text) {
        refusal(text, "UNKNOWN", PlaitAndBreak.UNKNOWN,
            "again along between by end keep linked loop point set sign step which");
        refusal(text, "OUTSIDE", PlaitAndBreak.OUTSIDE, "about along by colours end make most same set step write");
        refusal(text, "STATE", PlaitAndBreak.STATE, "again linked plait sign which");
        refusal(text, "FULL", PlaitAndBreak.FULL, "write");
    }

    private static void refusal(String text, String name, int value, String want) {
        Matcher rows = Pattern.compile("\\| `" + name + "`, " + value + " \\|[^\n]*(\n\\| \\|[^\n]*)*").matcher(text);
        due.isTrue(name + " is told", rows.find());
        TreeSet<String> named = new TreeSet<>();
        Matcher calls = Pattern.compile("`([a-zA-Z]+)`").matcher(rows.group().replace("`" + name + "`", ""));
        while (calls.find()) {
            named.add(calls.group(1));
        }
        due.isTrue(name + " by " + named, String.join(" ", named).equals(want));
    }
}
