import java.util.ArrayDeque;
import java.util.ArrayList;
import java.util.Arrays;
import java.util.Deque;
import java.util.HashMap;
import java.util.List;
import java.util.Map;

/**
 * The document told a second time, without regard to room or speed and by other ways than the class
 * (collections, whole tables, a machine of states for texts), to be asked the same calls.
 */
public final class Model {
    private static final int BAD = -1000000001, NO = -1000000002, FULL = -1000000003, NONE = -1000000005;
    private static final int NOTHING = -1000000011, KIND = -1000000012, INDEX = -1000000013, SIZE = -1000000014;

    private static final class M {
        int kind, voyage, day, at, off;
        Integer cape, name;

        M twin() {
            M m = new M();
            m.kind = kind;
            m.voyage = voyage;
            m.day = day;
            m.at = at;
            m.off = off;
            m.cape = cape;
            m.name = name;
            return m;
        }
    }

    /** A law: its words as they stood, those of E alone. */
    private record Law(int key, int voyage, List<String> words) {
    }

    private static final class State {
        List<M> marks = new ArrayList<>();
        List<Law> laws = new ArrayList<>();
        List<Integer> chosen = new ArrayList<>();
        List<List<Integer>> passages = new ArrayList<>();
        Map<Integer, int[]> clocks = new HashMap<>();
        Map<Integer, Integer> surveys = new HashMap<>();
        int z = 1;

        State twin() {
            State s = new State();
            for (M m : marks) {
                s.marks.add(m.twin());
            }
            s.laws.addAll(laws);
            s.chosen.addAll(chosen);
            s.passages.addAll(passages);
            s.clocks.putAll(clocks);
            s.surveys.putAll(surveys);
            s.z = z;
            return s;
        }
    }

    private State s = new State();
    private State image = null;
    private String tape = "";
    private final List<Integer> wait = new ArrayList<>();
    /** A sheet: its sort, then its places, null being fog. */
    private final Integer[][] sheets = new Integer[4][];
    private final int[] sorts = new int[4];
    /** What lies in a slot: an M, an Integer, or a row of Integers. */
    private final Object[] slots = new Object[5];

    // ---- marks

    public int mark(int kind, int when, int at, int off) {
        if (kind < 0 || kind > 7 || when < 0 || when > 299 || at < 0 || at > 999 || off < -99 || off > 99) return BAD;
        if (s.marks.size() == 24) return FULL;
        M m = new M();
        m.kind = kind;
        m.voyage = when / 100;
        m.day = when % 100;
        m.at = at;
        m.off = off;
        s.marks.add(m);
        return s.marks.size() - 1;
    }

    private boolean no(int mark) {
        return mark < 0 || mark >= s.marks.size();
    }

    private static int orNone(Integer v) {
        return v == null ? NONE : v;
    }

    public int told(int mark, int what) {
        if (no(mark) || what < 0 || what > 12) return BAD;
        M m = s.marks.get(mark);
        int[] row = {m.kind, m.voyage, m.day, m.at, m.off, orNone(m.cape), says(m), span(m), worth(m.kind), orNone(m.name),
            lean(m, 0), lean(m, 1), lean(m, 2)};
        return row[what];
    }

    private int lean(M m, int key) {
        Integer law = null;
        for (Law l : s.laws) {
            if (l.key == key && l.voyage == m.voyage) law = worked(l.words, m);
        }
        if (key == 0) return law == null ? 100 : Math.max(1, Math.min(400, law));
        long v = law == null ? 0 : law;
        if (key == 2 && s.clocks.containsKey(m.voyage) && m.day >= s.clocks.get(m.voyage)[0]) v += s.clocks.get(m.voyage)[1];
        return (int) Math.max(-200, Math.min(200, v));
    }

    private int says(M m) {
        int drawn = m.at + m.off / 10;
        return switch (m.kind) {
            case 1 -> m.at * lean(m, 0) / 100;
            case 2 -> m.at + lean(m, 1);
            case 3 -> m.at + lean(m, 2);
            case 4 -> drawn;
            case 5 -> drawn / 5 * 5;
            default -> m.at;
        };
    }

    private static int span(M m) {
        return new int[] {20, 10 + m.at / 20, 15, 5 + m.day / 10, 25, 35, 20, 2}[m.kind];
    }

    private static int worth(int kind) {
        return new int[] {1, 1, 1, 5, 2, 2, 3, 8}[kind];
    }

    private static boolean under(int kind, int above) {
        return Arrays.asList("0", "1 0", "2 0", "3 0", "4 0", "5 4 0", "6 0", "7 4 0").get(kind).indexOf('0' + above) >= 0;
    }

    public int as(int mark, int kind) {
        if (no(mark) || kind < 0 || kind > 7) return BAD;
        return under(s.marks.get(mark).kind, kind) ? s.marks.get(mark).at : KIND;
    }

    public int put(int mark, int cape) {
        if (no(mark) || cape < -1 || cape > 8) return BAD;
        int was = orNone(s.marks.get(mark).cape);
        s.marks.get(mark).cape = cape == -1 ? null : (Integer) cape;
        return was;
    }

    public int name(int mark, int name) {
        if (no(mark) || name < 0 || name > 9) return BAD;
        if (s.marks.get(mark).kind != 6) return KIND;
        int was = orNone(s.marks.get(mark).name);
        s.marks.get(mark).name = name;
        return was;
    }

    // ---- laws

    public int feed(int a, int b, int c) {
        if (tape.length() > 84) return FULL;
        StringBuilder text = new StringBuilder(tape);
        for (int v : new int[] {a, b, c}) {
            for (int i = 0; i < 4; i++) {
                text.append((char) ((v >> (24 - 8 * i)) & 0xff));
            }
        }
        tape = text.toString();
        return tape.length();
    }

    public int trim(int n) {
        if (n < 0 || n > tape.length()) return BAD;
        tape = tape.substring(0, n);
        return n;
    }

    private static String sortOf(char c) {
        return c >= 'a' && c <= 'z' ? "letter" : c >= '0' && c <= '9' ? "digit" : "sign";
    }

    public int law() {
        String text = tape;
        tape = "";
        List<String> words = new ArrayList<>();
        List<Integer> places = new ArrayList<>();
        List<Boolean> glued = new ArrayList<>();
        for (int i = 0; i < text.length();) {
            if (text.charAt(i) == ' ') {
                i++;
                continue;
            }
            int end = i + 1;
            String sort = sortOf(text.charAt(i));
            while (!sort.equals("sign") && end < text.length() && sortOf(text.charAt(end)).equals(sort)) end++;
            words.add(text.substring(i, end));
            places.add(i);
            glued.add(i > 0 && !sort.equals("sign") && text.charAt(i - 1) != ' ' && !sortOf(text.charAt(i - 1)).equals("sign"));
            i = end;
        }
        int fault = firstFault(words, glued);
        if (fault >= 0) return -100 - (fault < words.size() ? places.get(fault) : text.length());
        if (s.laws.size() == 14) return FULL;
        int key = List.of("log", "needle", "watch").indexOf(words.get(0));
        s.laws.add(new Law(key, Integer.parseInt(words.get(1)), words.subList(2, words.size())));
        return s.laws.size() - 1;
    }

    /** The first word that no text has there, the number of words if they end too soon, or -1: by states, not by the grammar. */
    private static int firstFault(List<String> words, List<Boolean> glued) {
        boolean wantsPiece = true;
        Deque<boolean[]> compared = new ArrayDeque<>();
        compared.push(new boolean[1]);
        Deque<int[]> nots = new ArrayDeque<>();
        nots.push(new int[1]);
        int openNots = 0;
        for (int i = 0; i < words.size(); i++) {
            String w = words.get(i);
            if (glued.get(i)) return i;
            if (i == 0) {
                if (!List.of("log", "needle", "watch").contains(w)) return 0;
            } else if (i == 1) {
                if (!w.matches("0{0,3}[012]")) return 1;
            } else if (wantsPiece) {
                if (w.equals("!")) {
                    if (openNots == 8) return i;
                    openNots++;
                    nots.peek()[0]++;
                } else if (w.equals("(")) {
                    if (compared.size() == 9) return i;
                    compared.push(new boolean[1]);
                    nots.push(new int[1]);
                } else if (w.matches("[0-9]{1,4}|[da]") || w.equals("o") && words.get(0).equals("needle")) {
                    wantsPiece = false;
                    openNots -= nots.peek()[0];
                    nots.peek()[0] = 0;
                } else {
                    return i;
                }
            } else if (w.equals(")")) {
                if (compared.size() == 1) return i;
                compared.pop();
                nots.pop();
                openNots -= nots.peek()[0];
                nots.peek()[0] = 0;
            } else if ("<=>".contains(w)) {
                if (compared.peek()[0]) return i;
                compared.peek()[0] = true;
                wantsPiece = true;
            } else if ("|&".contains(w)) {
                compared.peek()[0] = false;
                wantsPiece = true;
            } else if ("+-*/".contains(w)) {
                wantsPiece = true;
            } else {
                return i;
            }
        }
        return wantsPiece || compared.size() > 1 ? words.size() : -1;
    }

    private static int rank(String sign) {
        return sign.equals("(") ? 0 : sign.equals("!") ? 6 : sign.equals("|") ? 1 : sign.equals("&") ? 2
                : "<=>".contains(sign) ? 3 : "+-".contains(sign) ? 4 : 5;
    }

    /** Two stacks, of values and of signs that wait for their right side. */
    private static int worked(List<String> words, M m) {
        Deque<Integer> values = new ArrayDeque<>();
        Deque<String> signs = new ArrayDeque<>();
        for (String w : words) {
            if (sortOf(w.charAt(0)).equals("digit")) {
                values.push(Integer.parseInt(w));
            } else if (sortOf(w.charAt(0)).equals("letter")) {
                values.push(w.equals("d") ? m.day : w.equals("a") ? m.at : m.off);
            } else if (w.equals("!") || w.equals("(")) {
                signs.push(w);
            } else if (w.equals(")")) {
                while (!signs.peek().equals("(")) apply(values, signs.pop());
                signs.pop();
            } else {
                while (!signs.isEmpty() && rank(signs.peek()) >= rank(w)) apply(values, signs.pop());
                signs.push(w);
            }
        }
        while (!signs.isEmpty()) apply(values, signs.pop());
        return values.pop();
    }

    private static void apply(Deque<Integer> values, String sign) {
        int b = values.pop();
        if (sign.equals("!")) {
            values.push(b == 0 ? 1 : 0);
            return;
        }
        int a = values.pop();
        long v = switch (sign) {
            case "|" -> (a != 0 ? 1 : 0) + (b != 0 ? 1 : 0) > 0 ? 1 : 0;
            case "&" -> (a != 0 ? 1 : 0) * (b != 0 ? 1 : 0);
            case "<" -> a < b ? 1 : 0;
            case ">" -> b < a ? 1 : 0;
            case "=" -> a == b ? 1 : 0;
            case "+" -> (long) a + b;
            case "-" -> (long) a - b;
            case "*" -> (long) a * b;
            default -> b == 0 ? 0 : (long) a / b;
        };
        values.push((int) v);
    }

    public int of(int text, int what) {
        if (text < 0 || text >= s.laws.size() || what < 0 || what > 2) return BAD;
        Law l = s.laws.get(text);
        return what == 0 ? l.key : what == 1 ? l.voyage : (int) l.words.stream().filter(w -> w.matches("[a-z0-9]+")).count();
    }

    public int why(int voyage, int key) {
        if (voyage < 0 || voyage > 2 || key < 0 || key > 2) return BAD;
        int found = NONE;
        for (int i = 0; i < s.laws.size(); i++) {
            if (s.laws.get(i).key == key && s.laws.get(i).voyage == voyage) found = i;
        }
        return found;
    }

    // ---- capes

    private List<M> of(int cape) {
        return s.marks.stream().filter(m -> m.cape != null && m.cape == cape).toList();
    }

    private int least(int cape) {
        return of(cape).stream().mapToInt(m -> says(m) - span(m)).max().getAsInt();
    }

    private int most(int cape) {
        return of(cape).stream().mapToInt(m -> says(m) + span(m)).min().getAsInt();
    }

    private boolean holds(int cape) {
        return !of(cape).isEmpty() && least(cape) <= most(cape);
    }

    private boolean onOne(int cape) {
        return of(cape).stream().mapToInt(m -> m.voyage).distinct().count() == 1;
    }

    public int cape(int cape, int what) {
        if (cape < 0 || cape > 8 || what < 0 || what > 7) return BAD;
        if (what == 0) return of(cape).size();
        if (what == 5) return holds(cape) ? 1 : 0;
        if (what == 6) return of(cape).stream().mapToInt(m -> worth(m.kind)).sum();
        if (what == 7) return onOne(cape) ? 1 : 0;
        if (of(cape).isEmpty()) return NONE;
        int least = least(cape);
        int most = most(cape);
        return what == 1 ? least : what == 2 ? most : what == 3 ? most - least : (least + most) / 2;
    }

    public int capes(int what) {
        if (what < 0 || what > 2) return BAD;
        int bits = 0;
        for (int c = 8; c >= 0; c--) {
            bits = 2 * bits + (what == 0 ? of(c).isEmpty() ? 0 : 1 : what == 1 ? holds(c) ? 1 : 0 : onOne(c) ? 1 : 0);
        }
        return bits;
    }

    public int next() {
        int best = NONE;
        for (int c = 8; c >= 0; c--) {
            if (holds(c) && (best == NONE || most(c) - least(c) >= most(best) - least(best))) best = c;
        }
        return best;
    }

    private List<Integer> chosenOf(int voyage) {
        return s.chosen.stream().filter(i -> s.marks.get(i).voyage == voyage).toList();
    }

    public int choose(int mark) {
        if (no(mark)) return BAD;
        if (s.chosen.contains(mark)) return NO;
        int voyage = s.marks.get(mark).voyage;
        if (chosenOf(voyage).size() == 5) return FULL;
        s.chosen.add(mark);
        return chosenOf(voyage).size();
    }

    public int clear() {
        int were = s.chosen.size();
        s.chosen.clear();
        return were;
    }

    /** All there are, in order; each is a row of partners' numbers, NONE for none. */
    private void tryAll(List<Integer> ones, List<Integer> others, List<Integer> sofar, List<List<Integer>> all) {
        if (sofar.size() == ones.size()) {
            all.add(new ArrayList<>(sofar));
            return;
        }
        M a = s.marks.get(ones.get(sofar.size()));
        for (Integer o : others) {
            M b = s.marks.get(o);
            if (!sofar.contains(o) && Math.abs(says(a) - says(b)) <= span(a) + span(b)) {
                sofar.add(o);
                tryAll(ones, others, sofar, all);
                sofar.remove(sofar.size() - 1);
            }
        }
        sofar.add(NONE);
        tryAll(ones, others, sofar, all);
        sofar.remove(sofar.size() - 1);
    }

    private static int pairsOf(List<Integer> match) {
        return (int) match.stream().filter(p -> p != NONE).count();
    }

    private int sumOf(List<Integer> ones, List<Integer> match) {
        int sum = 0;
        for (int i = 0; i < match.size(); i++) {
            if (match.get(i) != NONE) sum += Math.abs(says(s.marks.get(ones.get(i))) - says(s.marks.get(match.get(i))));
        }
        return sum;
    }

    private List<Integer> best(int one, int other) {
        List<List<Integer>> all = new ArrayList<>();
        List<Integer> ones = chosenOf(one);
        tryAll(ones, chosenOf(other), new ArrayList<>(), all);
        int pairs = all.stream().mapToInt(Model::pairsOf).max().getAsInt();
        int sum = all.stream().filter(m -> pairsOf(m) == pairs).mapToInt(m -> sumOf(ones, m)).min().getAsInt();
        return all.stream().filter(m -> pairsOf(m) == pairs && sumOf(ones, m) == sum).findFirst().get();
    }

    private static boolean notTwo(int one, int other, int limit) {
        return one == other || Math.min(one, other) < 0 || Math.max(one, other) >= limit;
    }

    public int match(int one, int other, int what) {
        if (notTwo(one, other, 3) || what < -2 || what >= chosenOf(one).size()) return BAD;
        List<Integer> match = best(one, other);
        return what == -2 ? pairsOf(match) : what == -1 ? sumOf(chosenOf(one), match) : match.get(what);
    }

    public int join(int one, int other) {
        if (notTwo(one, other, 3)) return BAD;
        List<Integer> match = best(one, other);
        int moved = 0;
        for (int i = 0; i < match.size(); i++) {
            Integer cape = s.marks.get(chosenOf(one).get(i)).cape;
            if (match.get(i) == NONE || cape == null) continue;
            M m = s.marks.get(match.get(i));
            if (!cape.equals(m.cape)) moved++;
            m.cape = cape;
        }
        return moved;
    }

    public int passage(int one, int other, int how) {
        if (notTwo(one, other, 9) || how < 0 || how > 3) return BAD;
        if (s.passages.size() == 20) return FULL;
        s.passages.add(List.of(one, other, how));
        return s.passages.size();
    }

    private long times(int one, int other, int how) {
        return s.passages.stream().filter(p -> p.equals(List.of(one, other, how)) || p.equals(List.of(other, one, how))).count();
    }

    public int between(int one, int other) {
        if (notTwo(one, other, 9)) return BAD;
        boolean through = times(one, other, 0) > 0;
        boolean walked = times(one, other, 1) > 0;
        if (through && !walked) return 2;
        if (walked && !through) return 1;
        if (walked) return 3;
        return switch (Long.signum(times(one, other, 3) - times(one, other, 2))) {
            case 1 -> 4;
            case -1 -> 5;
            default -> 0;
        };
    }

    public int same(int one, int other) {
        if (notTwo(one, other, 10)) return BAD;
        for (M a : s.marks) {
            for (M b : s.marks) {
                if (orNone(a.name) == one && orNone(b.name) == other && a.cape != null && a.cape.equals(b.cape)) return 1;
            }
        }
        return 0;
    }

    public int kept(int cape) {
        if (cape < 0 || cape > 8) return BAD;
        M best = null;
        for (M m : of(cape)) {
            if (m.name != null && (best == null || m.day < best.day)) best = m;
        }
        return best == null ? NONE : best.name;
    }

    // ---- clocks, copies, towns, surveys

    public int set(int voyage, int day, int by) {
        if (voyage < 0 || voyage > 2 || day < 0 || day > 99 || by < -200 || by > 200) return BAD;
        s.clocks.put(voyage, new int[] {day, by});
        return 1;
    }

    public int clock(int voyage, int day, int what) {
        if (voyage < 0 || voyage > 2 || day < 0 || day > 99 || what < 0 || what > 2) return BAD;
        int[] was = s.clocks.get(voyage);
        List<Integer> good = new ArrayList<>();
        for (int by = -50; by <= 50; by++) {
            s.clocks.put(voyage, new int[] {day, by});
            boolean all = true;
            for (int c = 0; c < 9; c++) {
                if (of(c).stream().anyMatch(m -> m.kind == 3 && m.voyage == voyage)) all &= holds(c);
            }
            if (all) good.add(by);
        }
        if (was == null) s.clocks.remove(voyage);
        else s.clocks.put(voyage, was);
        if (what == 0) return good.size();
        return good.isEmpty() ? NONE : good.get(what == 1 ? 0 : good.size() - 1);
    }

    public int smooth(int sheet) {
        if (sheet < 0 || sheet > 3) return BAD;
        if (sheets[sheet] == null) return NOTHING;
        Integer[] was = sheets[sheet].clone();
        int other = 0;
        for (int i = 1; i + 1 < was.length; i++) {
            if (was[i - 1] == null || was[i] == null || was[i + 1] == null) continue;
            long sum = was[i - 1].longValue() + was[i].longValue() + was[i + 1].longValue();
            sheets[sheet][i] = (int) (sum / 3);
            if (!sheets[sheet][i].equals(was[i])) other++;
        }
        return other;
    }

    private static int distance(Integer[] a, Integer[] b) {
        int[][] t = new int[a.length + 1][b.length + 1];
        for (int i = a.length; i >= 0; i--) {
            for (int j = b.length; j >= 0; j--) {
                if (i == a.length || j == b.length) {
                    t[i][j] = a.length - i + b.length - j;
                } else {
                    boolean like = a[i] == null ? b[j] == null : a[i].equals(b[j]);
                    t[i][j] = Math.min(t[i + 1][j + 1] + (like ? 0 : 1), 1 + Math.min(t[i + 1][j], t[i][j + 1]));
                }
            }
        }
        return t[0][0];
    }

    public int changes(int from, int to) {
        if (from < 0 || from > 3 || to < 0 || to > 3) return BAD;
        if (sheets[from] == null || sheets[to] == null) return NOTHING;
        return sorts[from] == sorts[to] ? distance(sheets[from], sheets[to]) : KIND;
    }

    public int from(int sheet) {
        if (sheet < 0 || sheet > 3) return BAD;
        if (sheets[sheet] == null) return NOTHING;
        int best = NONE;
        for (int i = 3; i >= 0; i--) {
            if (i == sheet || sheets[i] == null || sorts[i] != sorts[sheet]) continue;
            if (best == NONE || distance(sheets[i], sheets[sheet]) <= distance(sheets[best], sheets[sheet])) best = i;
        }
        return best;
    }

    public int court(int cape, int n, int x, int y) {
        if (cape < 0 || cape > 8 || n < -99 || n > 99 || x < 0 || x > 1999 || y < x || y > 1999) return BAD;
        if (!holds(cape)) return NO;
        int in = 0;
        for (int p = least(cape) + n; p <= most(cape) + n; p++) {
            if (p >= x && p <= y) in++;
        }
        return in == 0 ? 0 : in == most(cape) - least(cape) + 1 ? 2 : 1;
    }

    public int survey(int cape, int place) {
        if (cape < 0 || cape > 8 || place < 0 || place > 999) return BAD;
        return orNone(s.surveys.put(cape, place));
    }

    public int held() {
        int bits = 0;
        for (Map.Entry<Integer, Integer> e : s.surveys.entrySet()) {
            int c = e.getKey();
            if (holds(c) && least(c) <= e.getValue() && e.getValue() <= most(c)) bits += 1 << c;
        }
        return bits;
    }

    public int misses(int voyage, int what) {
        if (voyage < 0 || voyage > 2 || what < 0 || what > 1) return BAD;
        int sum = 0;
        int many = 0;
        for (M m : s.marks) {
            if (m.voyage == voyage && m.cape != null && s.surveys.containsKey(m.cape)) {
                sum += Math.abs(says(m) - s.surveys.get(m.cape));
                many++;
            }
        }
        return what == 0 ? sum : many;
    }

    public int best() {
        int best = NONE;
        for (int v = 2; v >= 0; v--) {
            if (misses(v, 1) == 0) continue;
            if (best == NONE || misses(v, 0) / misses(v, 1) <= misses(best, 0) / misses(best, 1)) best = v;
        }
        return best;
    }

    public int seed(int v) {
        int was = s.z;
        s.z = v;
        return was;
    }

    private static List<Integer> sailing(State state, int by) {
        List<Integer> seen = new ArrayList<>();
        for (int c = 0; c < 9; c++) {
            if (state.surveys.containsKey(c)) {
                state.z = (int) (state.z * 1103515245L + 12345L);
                int draw = (int) ((state.z & 0xffffffffL) / 256);
                seen.add(state.surveys.get(c) - by + draw % (2 * by + 1));
            }
        }
        return seen;
    }

    public int share(int n, int by, int t) {
        if (n < 1 || n > 100 || by < 0 || by > 200 || t < 0 || t > 200) return BAD;
        int near = 0;
        List<Integer> places = sailing(s.twin(), 0);
        for (int i = 0; i < n; i++) {
            List<Integer> seen = sailing(s, by);
            boolean all = true;
            for (int k = 0; k < seen.size(); k++) {
                all &= seen.get(k) >= places.get(k) - t && seen.get(k) <= places.get(k) + t;
            }
            near += all ? 1 : 0;
        }
        return near;
    }

    // ---- sheets, slots

    public int sheet(int sheet, int sort, int n) {
        if (sheet < 0 || sheet > 3 || sort < -1 || sort > 1) return BAD;
        if (sort == -1) {
            sheets[sheet] = null;
            return 0;
        }
        if (n > 24) return BAD;
        if (n < 0) return SIZE;
        sheets[sheet] = new Integer[n];
        Arrays.fill(sheets[sheet], 0);
        sorts[sheet] = sort;
        return n;
    }

    public int write(int sheet, int place, int v) {
        if (sheet < 0 || sheet > 3) return BAD;
        if (sheets[sheet] == null) return NOTHING;
        if (place < 0 || place >= sheets[sheet].length) return INDEX;
        boolean floats = sorts[sheet] == 1;
        if (floats && v != NONE && (v < -99999 || v > 99999)) return BAD;
        sheets[sheet][place] = floats && v == NONE ? null : (Integer) v;
        return 1;
    }

    public int log(int sheet, int when) {
        if (sheet < 0 || sheet > 3 || when < 0 || when > 299) return BAD;
        if (sheets[sheet] == null) return NOTHING;
        int size = sheets[sheet].length;
        if (size > 0 && when % 100 + size - 1 > 99) return BAD;
        List<int[]> coming = new ArrayList<>();
        for (int i = 0; i < size; i++) {
            Integer v = sheets[sheet][i];
            if (v != null && v >= 0 && v <= 999) coming.add(new int[] {when + i, v});
        }
        if (s.marks.size() + coming.size() > 24) return FULL;
        for (int[] c : coming) {
            mark(0, c[0], c[1], 0);
        }
        return coming.size();
    }

    public int copy(int from, int place, int to, int at, int many) {
        if (from < 0 || from > 3 || to < 0 || to > 3) return BAD;
        if (sheets[from] == null || sheets[to] == null) return NOTHING;
        if (sorts[from] != sorts[to]) return KIND;
        if (place < 0 || at < 0 || many < 0) return INDEX;
        if ((long) place + many > sheets[from].length || (long) at + many > sheets[to].length) return INDEX;
        Integer[] were = Arrays.copyOfRange(sheets[from], place, place + many);
        for (int i = 0; i < many; i++) {
            sheets[to][at + i] = were[i];
        }
        return many;
    }

    private static int thing(Object o) {
        return o == null ? 0 : o instanceof M ? 1 : o instanceof Integer ? 3 : 2;
    }

    public int lay(int slot, int thing, int k) {
        if (slot < 0 || slot > 4 || thing < 0 || thing > 3) return BAD;
        Object o = null;
        if (thing == 1) {
            if (no(k)) return BAD;
            o = s.marks.get(k).twin();
        } else if (thing == 2) {
            if (k < 0 || k > 3) return BAD;
            if (sheets[k] == null) return NOTHING;
            o = sheets[k].clone();
        } else if (thing == 3) {
            o = k;
        }
        int was = thing(slots[slot]);
        slots[slot] = o;
        return was;
    }

    public int ask(int slot, int kind) {
        if (slot < 0 || slot > 4 || kind < 0 || kind > 7) return BAD;
        if (slots[slot] == null) return NOTHING;
        return slots[slot] instanceof M m && under(m.kind, kind) ? worth(m.kind) : KIND;
    }

    public int item(int slot, int place) {
        if (slot < 0 || slot > 4) return BAD;
        if (slots[slot] == null) return NOTHING;
        if (!(slots[slot] instanceof Integer[] row)) return KIND;
        if (place < 0 || place >= row.length) return INDEX;
        return row[place] == null ? KIND : row[place];
    }

    public int rest(int slot, int n) {
        if (slot < 0 || slot > 4) return BAD;
        if (slots[slot] == null) return NOTHING;
        if (!(slots[slot] instanceof Integer k)) return KIND;
        return n == 0 ? NO : (int) (k.longValue() % n);
    }

    // ---- rows, images

    public int tell(int v) {
        if (wait.size() == 60) return FULL;
        wait.add(v);
        return wait.size();
    }

    public int check(int n, int by) {
        List<Integer> told = new ArrayList<>(wait);
        wait.clear();
        if (n < 1 || n > 20 || by < 0 || by > 200) return BAD;
        if (image == null) return NO;
        State from = image.twin();
        List<Integer> sights = new ArrayList<>();
        for (int i = 0; i < n; i++) {
            sights.addAll(sailing(from, by));
        }
        if (sights.size() > 60) return FULL;
        if (told.equals(sights)) return 0;
        int right = 0;
        while (right < told.size() && right < sights.size() && told.get(right).equals(sights.get(right))) right++;
        return 1 + right;
    }

    public int keep() {
        image = s.twin();
        return s.marks.size();
    }

    public int back() {
        if (image == null) return NO;
        s = image.twin();
        return s.marks.size();
    }

    public int count(int what) {
        return switch (what) {
            case 0 -> s.marks.size();
            case 1 -> (int) s.marks.stream().filter(m -> m.cape != null).count();
            case 2 -> s.laws.size();
            case 3 -> s.passages.size();
            case 4 -> s.chosen.size();
            case 5 -> s.surveys.size();
            case 6 -> wait.size();
            case 7 -> tape.length();
            case 8 -> s.z;
            default -> BAD;
        };
    }
}
