import java.lang.reflect.Constructor;
import java.lang.reflect.Field;
import java.lang.reflect.Method;
import java.lang.reflect.Modifier;
import java.nio.charset.StandardCharsets;
import java.nio.file.Files;
import java.nio.file.Path;
import java.util.Set;
import java.util.TreeSet;
import java.util.regex.Matcher;
import java.util.regex.Pattern;

/** The document's face, and what of LANGUAGE.md a look at the class and its text can tell. Run from the project's root. */
public final class FaceTest {
    private static final String[] FACE = {"mark4", "told2", "as2", "put2", "name2", "feed3", "trim1", "law0", "of2", "why2",
        "cape2", "capes1", "next0", "choose1", "clear0", "match3", "join2", "passage3", "between2", "same2", "kept1", "set3",
        "clock3", "smooth1", "changes2", "from1", "court4", "survey2", "held0", "misses2", "best0", "seed1", "share3", "sheet3",
        "write3", "log2", "copy5", "lay3", "ask2", "item2", "rest2", "tell1", "check2", "keep0", "back0", "count1"};
    private static final Due due = new Due();

    public static void main(String[] args) throws Exception {
        face();
        nested();
        text(Files.readString(Path.of("src/main/java/CoastThree.java"), StandardCharsets.ISO_8859_1));
        due.end();
    }

    private static void face() {
        Class<?> c = CoastThree.class;
        due.holds("rule 1: public and final", Modifier.isPublic(c.getModifiers()) && Modifier.isFinal(c.getModifiers()));
        Constructor<?>[] made = c.getDeclaredConstructors();
        due.holds("rule 1: one constructor", made.length == 1 && Modifier.isPublic(made[0].getModifiers()));
        Set<String> want = new TreeSet<>(Set.of(FACE));
        for (Method m : c.getDeclaredMethods()) {
            if (Modifier.isPublic(m.getModifiers())) {
                due.holds("rule 1: promised " + m, want.remove(m.getName() + m.getParameterCount())
                        && m.getReturnType() == int.class && !Modifier.isStatic(m.getModifiers()));
            } else {
                due.holds("rule 1: private " + m, Modifier.isPrivate(m.getModifiers()) || m.isSynthetic());
            }
        }
        due.holds("face: without " + want, want.isEmpty());
        int constants = 0;
        for (Field f : c.getDeclaredFields()) {
            boolean open = Modifier.isPublic(f.getModifiers());
            due.holds("rule 1: private field " + f, open || Modifier.isPrivate(f.getModifiers()));
            constants += open && f.getType() == int.class && Modifier.isStatic(f.getModifiers()) ? 1 : 0;
        }
        due.is("face: constants", constants, 8);
        int[] told = {CoastThree.BAD, CoastThree.NO, CoastThree.FULL, CoastThree.NONE, CoastThree.NOTHING, CoastThree.KIND,
            CoastThree.INDEX, CoastThree.SIZE};
        int[] numbers = {1, 2, 3, 5, 11, 12, 13, 14};
        for (int i = 0; i < told.length; i++) {
            due.is("face: constant " + i, told[i], -1000000000 - numbers[i]);
        }
    }

    private static void nested() {
        Class<?>[] inside = CoastThree.class.getDeclaredClasses();
        due.holds("rule 11: at most twelve classes", inside.length < 12);
        Set<String> names = new TreeSet<>();
        for (String f : FACE) {
            names.add(f.substring(0, f.length() - 1));
        }
        for (Class<?> c : inside) {
            due.holds("rule 2: static " + c, Modifier.isStatic(c.getModifiers()));
            int fields = 0;
            for (Field f : c.getDeclaredFields()) {
                boolean constant = Modifier.isStatic(f.getModifiers());
                due.holds("rule 5: final " + f, !constant || Modifier.isFinal(f.getModifiers()));
                fields += constant ? 0 : 1;
            }
            due.holds("rule 11: at most twenty fields " + c, fields <= 20);
            for (Method m : c.getDeclaredMethods()) {
                due.holds("rule 1: no name of the face " + m, !names.contains(m.getName()));
                due.holds("rule 11: at most seven parameters " + m, m.getParameterCount() <= 7);
            }
        }
    }

    private static void text(String source) {
        for (int i = 0; i < source.length(); i++) {
            char c = source.charAt(i);
            due.holds("rule 4: sign " + (int) c, c == '\n' || c >= 32 && c < 127);
        }
        String code = source.replaceAll("(?s)/\\*.*?\\*/", "").replaceAll("//[^\n]*", "");
        String[] never = {"throw", "throws", "try", "catch", "synchronized", "assert", "import", "package", "double", "float",
            "Exact", "->", "::", "@", "hashCode", "toString", "new Object", "null"};
        for (String word : never) {
            Matcher found = Pattern.compile("(?<![A-Za-z])" + Pattern.quote(word) + "(?![A-Za-z])").matcher(code);
            due.holds("rules 2, 4, 6: no " + word, !found.find());
        }
        Matcher library = Pattern.compile("\\b(Integer|Long|Math|System|Arrays|String|List)\\.(\\w+)").matcher(code);
        while (library.find()) {
            due.holds("rule 4: " + library.group(), Set.of("min", "max", "abs", "bitCount", "arraycopy").contains(library.group(2)));
        }
        methodsAreShort(code.split("\n"));
    }

    /** By the indent: a method ends with the brace that stands as its head does. */
    private static void methodsAreShort(String[] lines) {
        Pattern head = Pattern.compile("^( {4}| {8})[A-Za-z].*\\) \\{$");
        for (int i = 0; i < lines.length; i++) {
            Matcher m = head.matcher(lines[i]);
            if (m.matches() && !lines[i].matches(" *(if|for|while|switch) .*")) {
                int end = i;
                while (end < lines.length && !lines[end].equals(m.group(1) + "}")) {
                    end++;
                }
                due.holds("rule 11: short " + lines[i].trim(), end - i < 60);
            }
        }
    }
}
