import java.util.NoSuchElementException;
import java.util.Random;

/** Any arguments in any state: nothing is thrown but what rests may throw, and little is made. */
public final class SafeTest {
    private static final int[] EDGES = {Integer.MIN_VALUE, -1000000, -2, -1, 0, 1, 2, 3, 4, 5, 6, 7, 8, 9, 10, 11, 12, 13, 60,
        61, 99, 100, 9999, 10000, Integer.MAX_VALUE};
    private static final String[] PIECES = {"turbine a plain of 1 at 3;", "turbine b tall of 2 at 9;", "turbine c old of 1 at 15;",
        "turbine d small of 2 at 21;", "turbine e plain of 1 at 27;", "turbine f old of 2 at 33;", "cable a home holds 30;",
        "cable b to a holds 9;", "cable c to b holds 200;", "cable d home holds 1;", "blows 30 1 12;", "from 2 0;",
        "price 0 20 7;", "wakes 9 9 9;", "wears 3;", "slack 1;", "gives not (wind < 9) * 9999 * 9999 * wind - worn;", "step;",
        "shut a;", "turn b 0;", "mend c;", "open f;", "((((((", "gives", "?", "12345", "\n"};

    private final Random random;

    private SafeTest(long seed) {
        random = new Random(seed);
    }

    public static void main(String[] args) {
        for (int seed = 0; seed < 3000; seed++) {
            String name = "run " + seed;
            try {
                new SafeTest(seed).run();
                Check.same(name, 0, 0);
            } catch (RuntimeException thrown) {
                thrown.printStackTrace(System.out);
                Check.same(name + " threw", 1, 0);
            }
        }
        longLaws();
        Check.end();
    }

    private void run() {
        WakePark x = new WakePark();
        for (int i = 0; i < 120; i++) {
            if (random.nextInt(4) == 0) {
                tell(x);
            }
            call(x, random.nextInt(40));
        }
    }

    private void tell(WakePark x) {
        StringBuilder s = new StringBuilder();
        boolean orderly = random.nextBoolean();
        for (int i = 0; i < PIECES.length; i++) {
            if (orderly ? i < 17 && random.nextInt(5) > 0 : random.nextInt(4) == 0) {
                s.append(PIECES[orderly ? i : random.nextInt(PIECES.length)]);
            }
        }
        Check.feed(x, s.toString());
        if (random.nextInt(5) == 0) {
            x.feed(random.nextLong(), random.nextLong(), random.nextLong());
        }
        int wrong = random.nextInt(3) == 0 ? x.day() : x.park();
        Check.is("a fault is in the text", wrong >= 0 && wrong / 16 <= 1000 && wrong % 16 <= 5);
    }

    private int any() {
        return random.nextInt(3) == 0 ? EDGES[random.nextInt(EDGES.length)] : random.nextInt(7);
    }

    private void call(WakePark x, int which) {
        switch (which) {
            case 0: x.feed(random.nextLong(), random.nextLong(), random.nextLong()); break;
            case 1: x.park(); break;
            case 2: x.day(); break;
            case 3: x.turbine(any(), any()); break;
            case 4: x.wind(any()); break;
            case 5: x.power(any()); break;
            case 6: x.carried(any()); break;
            case 7: x.home(); break;
            case 8: x.turn(any(), any()); break;
            case 9: x.shut(any()); break;
            case 10: x.open(any()); break;
            case 11: x.mend(any()); break;
            case 12: x.step(); break;
            case 13: x.undo(); break;
            case 14: x.judged(any()); break;
            case 15: x.takes(any(), any()); break;
            case 16: x.later(any()); break;
            case 17: x.total(any()); break;
            case 18: x.breaks(any()); break;
            case 19: x.lost(); break;
            default: callMore(x, which); break;
        }
    }

    private void callMore(WakePark x, int which) {
        switch (which) {
            case 20: if (random.nextInt(8) == 0) x.best(any()); break;
            case 21: x.alone(any(), any()); break;
            case 22: x.idle(); break;
            case 23: x.straight(); break;
            case 24: x.full(); break;
            case 25: x.dear(); break;
            case 26: x.fault(any()); break;
            case 27: x.robbed(any()); break;
            case 28: x.front(); break;
            case 29: x.shade(any()); break;
            case 30: x.hops(any()); break;
            case 31: x.see(any(), any()); break;
            case 32: x.winds(any()); break;
            case 33: x.ask(); break;
            case 34: x.chance(any(), any(), any()); break;
            case 35: rest(x); break;
            case 36: x.days(any(), any(), any()); break;
            case 37: x.mark(any(), random.nextBoolean()); break;
            default: x.count(any()); break;
        }
    }

    private void rest(WakePark x) {
        try {
            x.rests(any(), any(), any(), any());
        } catch (NoSuchElementException none) {
            Check.same("the document's own", 0, 0);
        }
    }

    /** Laws that fill the tape: the longest, and those that pile up most. */
    private static void longLaws() {
        String head = "turbine a plain of 1 at 0;gives ";
        int room = 1000 - head.length() - 1;
        Check.same("ones", Check.told(head + "1" + "+1".repeat((room - 1) / 2) + ";").power(0), 99);
        Check.same("nines", Check.told(head + "9" + "*9".repeat((room - 1) / 2) + ";").power(0) >= 0 ? 1 : 0, 1);
        String deep = "1";
        for (int i = 0; i < 4; i++) {
            deep = "0 or 1 < 2 + 1 * (" + deep + ")";
        }
        Check.same("deep", Check.told(head + deep + ";").power(0), 1);
        Check.same("nots", Check.told(head + "1" + "+not not not not 1".repeat(50) + ";").power(0), 51);
    }
}
