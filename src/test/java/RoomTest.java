import java.lang.management.ManagementFactory;
import java.util.Random;

/** The room of a run: what one object is made with, and that no call makes anything more. */
public final class RoomTest {
    private static final Due due = new Due();
    private static final com.sun.management.ThreadMXBean thread =
            (com.sun.management.ThreadMXBean) ManagementFactory.getThreadMXBean();

    public static void main(String[] args) {
        Random random = new Random(1);
        String[] texts = new String[400];
        for (int i = 0; i < texts.length; i++) {
            texts[i] = Texts.near(random);
        }
        fullRun(texts);
        long ahead = thread.getCurrentThreadAllocatedBytes();
        new CoastThree();
        long made = thread.getCurrentThreadAllocatedBytes() - ahead;
        due.holds("an object is small, but has " + made + " bytes", made < 40000);
        long before = thread.getCurrentThreadAllocatedBytes();
        int none = fullRun(texts);
        long all = thread.getCurrentThreadAllocatedBytes() - before;
        due.holds("calls make nothing, but made " + (all - made) + " bytes " + none, all - made < 1000);
        due.end();
    }

    /** The dearest states: all rows full, the longest laws; then every call on them. */
    private static int fullRun(String[] texts) {
        CoastThree x = new CoastThree();
        int sum = 0;
        for (int i = 0; i < 24; i++) {
            sum += x.mark(i % 8, i % 3 * 100 + 4 * i, 300 + i, i);
            sum += x.put(i, i % 9) + x.choose(i) + x.name(i, i % 10);
        }
        for (int i = 0; i < texts.length; i++) {
            Tape.put(x, texts[i]);
            sum += x.law();
        }
        for (int i = 0; i < 9; i++) {
            sum += x.survey(i, 310) + x.passage(i, (i + 1) % 9, i % 4);
        }
        for (int i = 0; i < 4; i++) {
            sum += x.sheet(i, i % 2, 24) + x.write(i, 3, 7) + x.lay(i, i, i);
        }
        for (int i = 0; i < 3; i++) {
            sum += x.set(i, 10, 5) + x.clock(i, 10, 1) + x.match(i, (i + 1) % 3, 0) + x.join(i, (i + 1) % 3);
            sum += x.misses(i, 0) + x.why(i, i) + x.of(i, 2) + x.capes(i);
        }
        sum += x.keep() + x.share(100, 5, 5) + x.tell(1) + x.check(6, 9) + x.back() + x.next() + x.held() + x.best();
        for (int i = 0; i < 9; i++) {
            sum += x.cape(i, 4) + x.court(i, 5, 300, 320) + x.between(i, (i + 1) % 9) + x.kept(i) + x.same(i, i + 1);
            sum += x.count(i) + x.told(i, 6) + x.as(i, 0) + x.item(2, i) + x.ask(1, 0) + x.rest(3, i);
        }
        for (int i = 0; i < 4; i++) {
            sum += x.smooth(i) + x.changes(i, (i + 2) % 4) + x.from(i) + x.copy(i, 0, i, 1, 5) + x.log(i, 0);
        }
        return sum + x.seed(3) + x.clear();
    }
}
