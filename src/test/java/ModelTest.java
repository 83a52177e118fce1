import java.lang.reflect.InvocationTargetException;
import java.lang.reflect.Method;
import java.util.Arrays;
import java.util.Comparator;
import java.util.Random;

/**
 * All promises: runs of calls drawn from fixed seeds, asked of the class and of the model, and short
 * enough to stay below 512 calls. A call that throws fails the test.
 */
public final class ModelTest {
    private static final int RUNS = 4000, CALLS = 300;
    private static final int[] EXTREMES = {Integer.MIN_VALUE, Integer.MAX_VALUE, CoastThree.NONE, -1, 0, 1, 1000000007};
    private static final Due due = new Due();
    private static final Method[] calls = CoastThree.class.getDeclaredMethods();
    private static Random random;

    public static void main(String[] args) throws ReflectiveOperationException {
        Method[] face = Arrays.stream(calls).filter(m -> java.lang.reflect.Modifier.isPublic(m.getModifiers()))
                .sorted(Comparator.comparing(Method::getName)).toArray(Method[]::new);
        Method[] twins = new Method[face.length];
        for (int i = 0; i < face.length; i++) {
            twins[i] = Model.class.getMethod(face[i].getName(), face[i].getParameterTypes());
        }
        due.is("the face has", face.length, 46);
        for (int run = 0; run < RUNS; run++) {
            oneRun(run, face, twins);
        }
        due.end();
    }

    /** The first calls make a coast, the rest asks of it and goes on: so that limits are come upon too. */
    private static void oneRun(int run, Method[] face, Method[] twins) throws ReflectiveOperationException {
        random = new Random(run);
        CoastThree x = new CoastThree();
        Model model = new Model();
        for (int call = 0; call < CALLS; call++) {
            if (random.nextInt(30) == 0 && x.count(7) == 0) {
                String text = run % 2 == 0 ? Texts.near(random) : Texts.good(random);
                for (int i = 0; i < text.length(); i += 12) {
                    both(run, x, model, "feed", Tape.four(text, i), Tape.four(text, i + 4), Tape.four(text, i + 8));
                }
                both(run, x, model, "trim", text.length());
                both(run, x, model, "law");
                continue;
            }
            int i = random.nextInt(face.length);
            if (call < 60) {
                i = indexOf(face, EARLY[random.nextInt(EARLY.length)]);
            }
            if (face[i].getName().matches("clear|back") && random.nextInt(4) != 0) {
                continue;
            }
            Object[] values = arguments(face[i], x);
            Object got = answer(face[i], x, values);
            Object want = answer(twins[i], model, values);
            due.is("run " + run + " call " + call + " " + face[i].getName() + Arrays.toString(values), (int) got, (int) want);
        }
    }

    private static final String[] EARLY = {"mark", "mark", "mark", "put", "put", "put", "choose", "survey", "sheet", "write", "set",
        "name", "passage"};

    private static int indexOf(Method[] face, String name) {
        for (int i = 0; i < face.length; i++) {
            if (face[i].getName().equals(name)) {
                return i;
            }
        }
        return 0;
    }

    private static void both(int run, CoastThree x, Model model, String name, Object... values) throws ReflectiveOperationException {
        Class<?>[] types = new Class<?>[values.length];
        Arrays.fill(types, int.class);
        Object got = answer(CoastThree.class.getMethod(name, types), x, values);
        Object want = answer(Model.class.getMethod(name, types), model, values);
        due.is("run " + run + " " + name + Arrays.toString(values), (int) got, (int) want);
    }

    private static Object answer(Method method, Object of, Object[] values) throws ReflectiveOperationException {
        try {
            return method.invoke(of, values);
        } catch (InvocationTargetException e) {
            System.out.println(method + Arrays.toString(values) + " threw " + e.getCause());
            e.getCause().printStackTrace();
            System.exit(1);
            return null;
        }
    }

    /** Of each call's parameters: the least and the greatest that are good, as far as they are fixed. */
    private static int[] ranges(String name) {
        return switch (name) {
            case "mark" -> new int[] {0, 7, 0, 299, 0, 999, -99, 99};
            case "told" -> new int[] {0, 23, 0, 12};
            case "as" -> new int[] {0, 23, 0, 7};
            case "put" -> new int[] {0, 23, -1, 8};
            case "name" -> new int[] {0, 23, 0, 9};
            case "feed" -> new int[] {0, 0, 0, 0, 0, 0};
            case "trim" -> new int[] {0, 96};
            case "of" -> new int[] {0, 13, 0, 2};
            case "why" -> new int[] {0, 2, 0, 2};
            case "cape" -> new int[] {0, 8, 0, 7};
            case "capes" -> new int[] {0, 2};
            case "choose" -> new int[] {0, 23};
            case "match" -> new int[] {0, 2, 0, 2, -2, 4};
            case "join" -> new int[] {0, 2, 0, 2};
            case "passage" -> new int[] {0, 8, 0, 8, 0, 3};
            case "between" -> new int[] {0, 8, 0, 8};
            case "same" -> new int[] {0, 9, 0, 9};
            case "kept" -> new int[] {0, 8};
            case "set" -> new int[] {0, 2, 0, 99, -200, 200};
            case "clock" -> new int[] {0, 2, 0, 99, 0, 2};
            case "smooth", "from" -> new int[] {0, 3};
            case "changes" -> new int[] {0, 3, 0, 3};
            case "court" -> new int[] {0, 8, -99, 99, 0, 1999, 0, 1999};
            case "survey" -> new int[] {0, 8, 0, 999};
            case "misses" -> new int[] {0, 2, 0, 1};
            case "seed" -> new int[] {-9999, 9999};
            case "share" -> new int[] {1, 100, 0, 200, 0, 200};
            case "sheet" -> new int[] {0, 3, -1, 1, 0, 24};
            case "write" -> new int[] {0, 3, 0, 23, -20, 1020};
            case "log" -> new int[] {0, 3, 0, 299};
            case "copy" -> new int[] {0, 3, 0, 12, 0, 3, 0, 12, 0, 12};
            case "lay" -> new int[] {0, 4, 0, 3, 0, 3};
            case "ask" -> new int[] {0, 4, 0, 7};
            case "item" -> new int[] {0, 4, 0, 23};
            case "rest" -> new int[] {0, 4, -9, 9};
            case "tell" -> new int[] {0, 999};
            case "check" -> new int[] {1, 20, 0, 200};
            case "count" -> new int[] {0, 8};
            default -> new int[0];
        };
    }

    private static Object[] arguments(Method method, CoastThree x) {
        int[] ranges = ranges(method.getName());
        Object[] values = new Object[method.getParameterCount()];
        boolean wild = random.nextInt(12) == 0;
        for (int i = 0; i < values.length; i++) {
            int low = ranges[2 * i];
            int high = ranges[2 * i + 1];
            if (high == 23 && x.count(0) > 0 && method.getName().matches("told|as|put|name|choose")) {
                high = x.count(0) - 1;
            }
            int v = low + random.nextInt(high - low + 1);
            if (wild && random.nextInt(2) == 0) {
                v = random.nextBoolean() ? low - 1 : high + 1;
            } else if (wild && random.nextInt(3) == 0) {
                v = EXTREMES[random.nextInt(EXTREMES.length)];
            }
            values[i] = v;
        }
        narrow(method.getName(), values);
        return values;
    }

    /** Many marks near one another, few places on sheets alike, fog, small leanings: else all is far apart. */
    private static void narrow(String name, Object[] v) {
        if (name.equals("mark") && random.nextInt(4) != 0) {
            v[2] = 300 + random.nextInt(60);
        } else if (name.equals("put") && random.nextInt(2) == 0) {
            v[1] = random.nextInt(3);
        } else if (name.equals("survey") && random.nextInt(2) == 0) {
            v[1] = 300 + random.nextInt(60);
        } else if (name.equals("write") && random.nextInt(2) == 0) {
            v[1] = random.nextInt(8);
            v[2] = random.nextInt(5) == 0 ? CoastThree.NONE : random.nextInt(4) * 3;
        } else if (name.equals("sheet") && random.nextInt(2) == 0) {
            v[2] = 3 + random.nextInt(6);
        } else if (name.equals("set") && random.nextInt(2) == 0) {
            v[2] = random.nextInt(40) - 20;
        } else if (name.equals("court") && random.nextInt(2) == 0) {
            v[2] = 200 + random.nextInt(150);
            v[3] = 300 + random.nextInt(150);
        } else if (name.equals("check") && random.nextInt(2) == 0) {
            v[0] = 1 + random.nextInt(5);
            v[1] = 0;
        } else if (name.equals("share") && random.nextInt(2) == 0) {
            v[1] = random.nextInt(10);
            v[2] = random.nextInt(10);
        }
    }
}
