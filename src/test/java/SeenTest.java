/** Promises 33 to 36: which wind it was, whom to ask, how likely. */
public final class SeenTest {
    private static final String ONE = "turbine a plain of 1 at 0;";
    private static final String TWO = ONE + "turbine b plain of 2 at 6;";
    private static final int[] OTHERS = {-1, 2, 6, Integer.MIN_VALUE, Integer.MAX_VALUE};

    public static void main(String[] args) {
        seeing();
        guessing();
        guessingByHowItIs();
        asking();
        chances();
        Check.end();
    }

    private static void guess(WakePark x, int... due) {
        for (int what = 0; what < 4; what++) {
            Check.same("winds " + what, x.winds(what), due[what]);
        }
    }

    private static void seeing() {
        WakePark x = Check.told(TWO);
        for (int other : OTHERS) {
            Check.isNot("others", x.see(other, 5));
        }
        for (int other : new int[] {-1, 100, Integer.MIN_VALUE, Integer.MAX_VALUE}) {
            Check.isNot("others", x.see(0, other));
        }
        Check.same("nothing", x.count(10), 0);
        for (int i = 0; i < 8; i++) {
            Check.is("see", x.see(i % 2, i < 4 ? 0 : 99));
            Check.same("seen", x.count(10), i + 1);
        }
        Check.isNot("eight there are", x.see(0, 1));
        Check.same("eight", x.count(10), 8);
        Check.same("can't be undone", x.count(11), 0);
    }

    private static void guessing() {
        WakePark x = Check.told(ONE);
        guess(x, 124, 0, 30, 15);
        x.see(0, 10);
        guess(x, 4, 10, 10, 15);
        x.see(0, 10);
        guess(x, 4, 10, 10, 15);
        x.see(0, 11);
        guess(x, 0, -1, -1, 0);
        for (int other : new int[] {-1, 4, Integer.MIN_VALUE, Integer.MAX_VALUE}) {
            Check.same("others", x.winds(other), -1);
        }
        WakePark y = Check.told(TWO + "blows 30;from 2;");
        y.see(1, 5);
        guess(y, 5, 5, 11, 15);
        y.see(0, 10);
        guess(y, 1, 10, 10, 1);
        WakePark z = Check.told(TWO);
        z.see(1, 15);
        // 15 from the east, the south, the west, 30 from the north.
        guess(z, 4, 15, 30, 15);
        z.see(0, 15);
        guess(z, 2, 15, 15, 10);
        WakePark s = Check.told(ONE + "gives 50-wind;");
        s.see(0, 20);
        guess(s, 4, 30, 30, 15);
    }

    private static void guessingByHowItIs() {
        WakePark x = Check.told(ONE + "gives wind + worn + 7*night;wears 99;");
        x.see(0, 20);
        guess(x, 4, 20, 20, 15);
        x.turn(0, 4);
        guess(x, 0, -1, -1, 0);
        x.undo();
        x.shut(0);
        guess(x, 0, -1, -1, 0);
        x.open(0);
        x.turn(0, 1);
        x.step();
        x.turn(0, 2);
        guess(x, 4, 19, 19, 15);
        for (int i = 0; i < 5; i++) {
            x.step();
        }
        guess(x, 4, 12, 12, 15);
        x.shut(0);
        Check.readPark(x, ONE);
        guess(x, 124, 0, 30, 15);
        x.shut(0);
        x.see(0, 0);
        guess(x, 124, 0, 30, 15);
    }

    private static void asking() {
        WakePark x = Check.told(TWO);
        x.see(1, 5);
        Check.same("a", x.ask(), 0);
        x.see(0, 5);
        guess(x, 2, 5, 5, 10);
        Check.same("none parts them", x.ask(), -1);
        x.see(0, 6);
        Check.same("no wind is left", x.ask(), -1);
        Check.same("one", Check.told(ONE).ask(), 0);
        Check.same("all alike", Check.told(ONE + "gives 5;").ask(), -1);
        Check.same("no turbines", new WakePark().ask(), -1);
        WakePark y = Check.told(ONE + "turbine b plain of 1 at 35;");
        Check.same("of equal ones the first", y.ask(), 0);
        y.shut(0);
        Check.same("b parts them", y.ask(), 1);
        // By a wind of 9 from anywhere a parts nothing; c has wakes from two sides, b from one.
        WakePark z = Check.told("turbine a plain of 1 at 35;turbine b plain of 1 at 0;turbine c plain of 1 at 6;"
            + "turbine d plain of 1 at 12;");
        z.see(0, 9);
        guess(z, 4, 9, 9, 15);
        Check.same("c", z.ask(), 2);
    }

    private static void chances() {
        WakePark x = Check.told(ONE + "blows 20;");
        Check.same("20", x.chance(0, 20, 7), 700000);
        Check.same("11", x.chance(0, 11, 7), 700000);
        Check.same("10", x.chance(0, 10, 7), 1000000);
        Check.same("21", x.chance(0, 21, 7), 0);
        Check.same("99", x.chance(0, 99, 7), 0);
        Check.same("1", x.chance(0, 1, 7), 1000000);
        Check.same("odds 0", x.chance(0, 20, 0), 0);
        Check.same("odds 10", x.chance(0, 20, 10), 1000000);
        x = Check.told(ONE + "blows 15;");
        Check.same("half is cut", x.chance(0, 8, 3), 300000);
        Check.same("half is cut", x.chance(0, 7, 3), 1000000);
        x = Check.told(TWO + "blows 10 20;from 2;");
        Check.same("b from three", x.chance(1, 10, 5), 375000);
        Check.same("b from three, half", x.chance(1, 5, 0), 750000);
        Check.same("b", x.chance(1, 5, 3), 300000 + 525000);
        x.step();
        Check.same("what blows now", x.chance(1, 10, 1), 100000 + 675000);
        x.shut(0);
        Check.same("a is shut", x.chance(1, 10, 1), 1000000);
        Check.same("a is shut", x.chance(0, 1, 1), 0);
        for (int other : OTHERS) {
            Check.same("others", x.chance(other, 5, 5), -1);
        }
        for (int other : new int[] {0, -1, 100, Integer.MIN_VALUE, Integer.MAX_VALUE}) {
            Check.same("others", x.chance(1, other, 5), -1);
        }
        for (int other : new int[] {-1, 11, Integer.MIN_VALUE, Integer.MAX_VALUE}) {
            Check.same("others", x.chance(1, 5, other), -1);
        }
        x = Check.told(ONE + "blows 30;gives 40-wind;");
        Check.same("less wind gives more", x.chance(0, 25, 4), 600000);
    }
}
