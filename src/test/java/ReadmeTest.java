import java.lang.reflect.Method;
import java.lang.reflect.Modifier;
import java.nio.file.Files;
import java.nio.file.Path;
import java.util.List;
import java.util.regex.Matcher;
import java.util.regex.Pattern;

/** Makes the calls of README.md's examples and compares the answers with those that stand behind them. */
public final class ReadmeTest {
    private static final Pattern TYPED = Pattern.compile("for \\(char c : \"(.*)\"\\.toCharArray\\(\\)\\) \\{");
    private static final Pattern CALL = Pattern.compile("x\\.(\\w+)\\(([-0-9, ]*)\\); *(?:// (-?\\d+).*)?");
    private static final int LEAST_ANSWERS = 12;

    private static int wrong = 0;
    private static int answers = 0;
    private static LookaheadDepths x = null;

    public static void main(String[] args) throws Exception {
        List<String> lines = Files.readAllLines(Path.of("README.md"));
        boolean inside = false;
        for (String line : lines) {
            if (line.startsWith("```")) {
                inside = line.equals("```java");
            } else if (inside) {
                follow(line.strip());
            }
        }
        if (answers < LEAST_ANSWERS) {
            blame("README.md tells only " + answers + " answers");
        }
        nameAll(String.join("\n", lines));
        System.out.println(wrong == 0 ? "README.md is right" : wrong + " things in README.md are not right");
        if (wrong != 0) {
            System.exit(1);
        }
    }

    private static void blame(String what) {
        wrong++;
        System.out.println(what);
    }

    private static void follow(String line) throws Exception {
        Matcher typed = TYPED.matcher(line);
        Matcher call = CALL.matcher(line);
        if (line.equals("LookaheadDepths x = new LookaheadDepths();")) {
            x = new LookaheadDepths();
        } else if (typed.matches()) {
            for (char c : typed.group(1).toCharArray()) {
                x.type(c);
            }
        } else if (call.matches()) {
            make(call.group(1), call.group(2), call.group(3));
        } else if (!line.equals("x.type(c);") && !line.equals("}")) {
            blame("a line that this test can't follow: " + line);
        }
    }

    private static void make(String name, String list, String due) throws Exception {
        String[] parts = list.isEmpty() ? new String[0] : list.split(", ");
        Class<?>[] types = new Class<?>[parts.length];
        Object[] values = new Object[parts.length];
        for (int i = 0; i < parts.length; i++) {
            types[i] = int.class;
            values[i] = Integer.valueOf(parts[i]);
        }
        Object got = LookaheadDepths.class.getMethod(name, types).invoke(x, values);
        if (due != null) {
            answers++;
            if (!got.toString().equals(due)) {
                blame(name + "(" + list + ") answered " + got + ", README.md says " + due);
            }
        }
    }

    private static void nameAll(String page) {
        for (Method method : LookaheadDepths.class.getDeclaredMethods()) {
            if (Modifier.isPublic(method.getModifiers()) && !page.contains("`" + method.getName() + "`")) {
                blame("README.md does not name " + method.getName());
            }
        }
    }
}
