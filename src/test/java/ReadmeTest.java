import java.lang.reflect.Method;
import java.lang.reflect.Modifier;
import java.nio.charset.StandardCharsets;
import java.nio.file.Files;
import java.nio.file.Path;
import java.util.Set;
import java.util.TreeSet;
import java.util.regex.Matcher;
import java.util.regex.Pattern;

/** That README.md's examples answer what they say, and that it names every call. Run from the project's root. */
public final class ReadmeTest {
    private static final Pattern CALL = Pattern.compile("coast\\.(\\w+)\\((.*?)\\);\\s+// (-?\\d+|[A-Z]+)(:.*)?");
    private static final Pattern ROW = Pattern.compile("\\| `(\\w+)\\((.*?)\\)` \\| .+ \\|");
    private static final String MADE = "CoastThree coast = new CoastThree();";
    private static final Due due = new Due();

    public static void main(String[] args) throws Exception {
        String[] lines = Files.readString(Path.of("README.md"), StandardCharsets.ISO_8859_1).split("\n");
        examples(lines);
        rows(lines);
        due.end();
    }

    private static void examples(String[] lines) throws Exception {
        CoastThree coast = null;
        boolean inside = false;
        int asked = 0;
        for (String line : lines) {
            if (line.startsWith("```")) {
                inside = line.equals("```java");
            } else if (inside && line.equals(MADE)) {
                coast = new CoastThree();
            } else if (inside) {
                Matcher call = CALL.matcher(line);
                boolean good = call.matches() && coast != null;
                due.holds("README.md: a call and its answer: " + line, good);
                if (good) {
                    due.is("README.md: " + line, answer(coast, call.group(1), call.group(2)), number(call.group(3)));
                    asked++;
                }
            }
        }
        due.holds("README.md has examples", asked > 0);
    }

    private static int answer(CoastThree coast, String name, String list) throws Exception {
        String[] words = list.isEmpty() ? new String[0] : list.split(", ");
        Object[] values = new Object[words.length];
        for (int i = 0; i < words.length; i++) {
            values[i] = number(words[i].replace("CoastThree.", ""));
        }
        for (Method m : CoastThree.class.getMethods()) {
            if (m.getName().equals(name) && m.getReturnType() == int.class && m.getParameterCount() == values.length) {
                return (Integer) m.invoke(coast, values);
            }
        }
        throw new IllegalArgumentException("README.md: there is no call " + name);
    }

    /** A number as Java writes it, or the name of a constant of the class. */
    private static int number(String word) throws Exception {
        return word.matches("[A-Z]+") ? CoastThree.class.getField(word).getInt(null) : Long.decode(word).intValue();
    }

    private static void rows(String[] lines) {
        Set<String> want = new TreeSet<>();
        for (Method m : CoastThree.class.getDeclaredMethods()) {
            if (Modifier.isPublic(m.getModifiers())) {
                want.add(m.getName() + m.getParameterCount());
            }
        }
        for (String line : lines) {
            Matcher row = ROW.matcher(line);
            if (row.matches()) {
                int arguments = row.group(2).isEmpty() ? 0 : row.group(2).split(", ").length;
                due.holds("README.md: a call of the face, once: " + line, want.remove(row.group(1) + arguments));
            }
        }
        due.holds("README.md: no row for " + want, want.isEmpty());
    }
}
