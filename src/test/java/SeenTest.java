/** Promises 33 to 36, sentence by sentence: which wind it was, whom to ask, how likely. */
public final class SeenTest {
    private static final String ONE = "turbine a plain of 1 at 0;";
    private static final String TWO = ONE + "turbine b plain of 2 at 6;";
    private static final String SIX = TWO + "turbine c plain of 1 at 2;turbine d plain of 1 at 3;turbine e plain of 1 at 4;"
        + "turbine f plain of 1 at 5;";
    private static final int[] OTHERS = {-1, 2, 6, 7, Integer.MIN_VALUE, Integer.MAX_VALUE};

    public static void main(String[] args) {
        seeing();
        seeingOthers();
        seeingEight();
        windsOfAll();
        windsSeen();
        windsNone();
        windsOthers();
        allBeingAsItIsNow();
        asking();
        askingOfEqualOnes();
        nonePartsThem();
        chances();
        halfAsStrong();
        chancesOfTheFour();
        chancesOfOthers();
        Check.end();
    }

    private static void guess(String what, WakePark x, int... due) {
        for (int i = 0; i < 4; i++) {
            Check.same(what + ", winds " + i, x.winds(i), due[i]);
        }
    }

    private static void seeing() {
        Check.says(33, "SEEN: that one gives so much POWER (0 to 99)");
        for (int power : new int[] {0, 1, 98, 99}) {
            WakePark x = Check.told(SIX);
            Check.is("the first one, " + power, x.see(0, power));
            Check.is("the last one, " + power, x.see(5, power));
            Check.same("two", x.count(10), 2);
            Check.same("it can't be undone", x.count(11), 0);
        }
        WakePark y = Check.told(ONE + "gives 99;");
        y.see(0, 99);
        guess("99", y, 124, 0, 30, 15);
        y = Check.told(ONE + "gives 99;");
        y.see(0, 0);
        guess("0", y, 0, -1, -1, 0);
        y.shut(0);
        guess("0 of one that is shut", y, 124, 0, 30, 15);
        for (int i = 0; i < 6; i++) {
            WakePark z = Check.told(SIX + "gives 99*(wind<30);");
            z.shut(i);
            z.see(i, 0);
            guess("0 of " + i, z, 124, 0, 30, 15);
            z.open(i);
            z.see(i, 99);
            guess("both can't be", z, 0, -1, -1, 0);
        }
    }

    private static void seeingOthers() {
        Check.says(33, "SEEN: true; false: others, 8 there are.");
        WakePark x = Check.told(TWO);
        for (int other : OTHERS) {
            Check.isNot("turbine " + other, x.see(other, 5));
        }
        for (int power : new int[] {-1, 100, 101, Integer.MIN_VALUE, Integer.MAX_VALUE}) {
            Check.isNot("power " + power, x.see(0, power));
        }
        Check.same("nothing", x.count(10), 0);
        Check.isNot("a seventh", Check.told(SIX).see(6, 1));
        Check.isNot("none at all", new WakePark().see(0, 1));
        Twin.leaves("another one", y -> y.see(4, 1) ? 1 : 0, 0);
        Twin.leaves("another power", y -> y.see(0, 100) ? 1 : 0, 0);
        Twin.leaves("another power", y -> y.see(0, -1) ? 1 : 0, 0);
    }

    private static void seeingEight() {
        Check.says(33, "8 at most");
        WakePark x = Check.told(TWO);
        for (int i = 0; i < 8; i++) {
            Check.is("see " + i, x.see(i % 2, 10));
            Check.same("seen", x.count(10), i + 1);
        }
        for (int i = 0; i < 3; i++) {
            Check.isNot("a ninth", x.see(0, 11));
            Check.same("eight", x.count(10), 8);
        }
        guess("the ninth does not count", x, 2, 10, 10, 2 + 8);
        x = Check.told(ONE);
        for (int i = 0; i < 7; i++) {
            x.see(0, 10);
        }
        guess("seven", x, 4, 10, 10, 15);
        x.see(0, 11);
        guess("the eighth counts", x, 0, -1, -1, 0);
        WakePark one = Twin.lived("oh");
        WakePark other = Twin.lived("oh");
        for (int i = 0; i < 6; i++) {
            one.see(0, 12);
            other.see(0, 12);
        }
        Check.isNot("a ninth", one.see(1, 5));
        Twin.alike("a ninth leaves all", one, other);
    }

    private static void windsOfAll() {
        Check.says(34, "in an unknown wind (0 to 30, from 0 to 3)");
        guess("nothing SEEN", Check.told(ONE), 124, 0, 30, 15);
        guess("an empty sea", new WakePark(), 124, 0, 30, 15);
        guess("what blows matters not", Check.told(TWO + "blows 7;from 2;"), 124, 0, 30, 15);
        for (int power : new int[] {0, 1, 29, 30}) {
            WakePark x = Check.told(ONE);
            x.see(0, power);
            guess("a wind of " + power, x, 4, power, power, 15);
        }
        WakePark x = Check.told(ONE);
        x.see(0, 31);
        guess("a wind of 31", x, 0, -1, -1, 0);
    }

    private static void windsSeen() {
        Check.says(34, "WINDS by which all SEEN is so: how many; the least; the greatest; from where (bits).");
        WakePark x = Check.told(TWO);
        x.see(1, 5);
        // 10 and 11 from the north, of which half are left, and 5 from the other three.
        guess("b", x, 5, 5, 11, 15);
        x.see(0, 10);
        guess("and a", x, 1, 10, 10, 1);
        WakePark y = Check.told(TWO);
        y.see(1, 15);
        guess("b", y, 4, 15, 30, 15);
        y.see(0, 15);
        // From the south a has half of the wind: it is the east or the west.
        guess("and a", y, 2, 15, 15, 2 + 8);
        y.see(0, 15);
        guess("twice", y, 2, 15, 15, 2 + 8);
        WakePark z = Check.told(ONE + "gives 50-wind;");
        z.see(0, 20);
        guess("by a law", z, 4, 30, 30, 15);
        z = Check.told(ONE + "gives 7*(wind<5)+7*(25<wind);");
        z.see(0, 7);
        guess("0 to 4, 26 to 30", z, 40, 0, 30, 15);
        z = Check.told("turbine a plain of 1 at 7;turbine b plain of 1 at 1;");
        z.see(0, 5);
        z.see(1, 10);
        guess("from the north", z, 1, 10, 10, 1);
        z = Check.told("turbine a plain of 1 at 7;turbine b plain of 1 at 8;");
        z.see(0, 5);
        z.see(1, 10);
        guess("from the east", z, 1, 10, 10, 2);
        z = Check.told("turbine a plain of 1 at 7;turbine b plain of 1 at 13;");
        z.see(0, 5);
        z.see(1, 10);
        guess("from the south", z, 1, 10, 10, 4);
        z = Check.told("turbine a plain of 1 at 7;turbine b plain of 1 at 6;");
        z.see(0, 5);
        z.see(1, 10);
        guess("from the west", z, 1, 10, 10, 8);
    }

    private static void windsNone() {
        Check.says(34, "NONE: others, none (but 0, 3)");
        WakePark x = Check.told(ONE);
        x.see(0, 10);
        x.see(0, 11);
        Check.same("how many", x.winds(0), 0);
        Check.same("the least", x.winds(1), -1);
        Check.same("the greatest", x.winds(2), -1);
        Check.same("from where", x.winds(3), 0);
    }

    private static void windsOthers() {
        Check.says(34, "WINDS, what 0: how many, 1: the least, 2: the greatest, 3: bits; NONE: others");
        WakePark x = Check.told(ONE);
        for (int other : new int[] {-1, 4, 5, Integer.MIN_VALUE, Integer.MAX_VALUE}) {
            Check.same("others", x.winds(other), -1);
        }
        x.see(0, 77);
        for (int other : new int[] {-1, 4, 5, Integer.MIN_VALUE, Integer.MAX_VALUE}) {
            Check.same("others", x.winds(other), -1);
        }
        // b, that is broken, gives nothing, but 3 were SEEN.
        int[] due = {-1, 0, -1, -1, 0, -1};
        for (int what = -1; what <= 4; what++) {
            int asked = what;
            Twin.leaves("winds " + what, y -> y.winds(asked), due[what + 1]);
        }
    }

    private static void allBeingAsItIsNow() {
        Check.says(34, "all being as it is now");
        WakePark x = Check.told(ONE + "gives wind + worn + 7*night;wears 99;");
        x.see(0, 20);
        guess("at first", x, 4, 20, 20, 15);
        x.turn(0, 4);
        guess("turned", x, 0, -1, -1, 0);
        x.undo();
        x.shut(0);
        guess("shut", x, 0, -1, -1, 0);
        x.open(0);
        x.turn(0, 1);
        x.step();
        x.turn(0, 2);
        guess("worn", x, 4, 19, 19, 15);
        for (int i = 0; i < 5; i++) {
            x.step();
        }
        guess("by night", x, 4, 12, 12, 15);
        WakePark y = Check.told(TWO);
        y.see(1, 15);
        y.shut(0);
        guess("a takes nothing", y, 4, 15, 15, 15);
    }

    private static void asking() {
        Check.says(35, "ASK: the TURBINE by which the greatest number of these by which it gives as much is the least");
        WakePark x = Check.told(TWO);
        x.see(1, 5);
        // By 10, 11 from the north, 5 from three: a gives 10, 11, 5, 2, 5, the greatest number is 2; b gives 5 by all.
        Check.same("a", x.ask(), 0);
        Check.same("one alone", Check.told(ONE).ask(), 0);
        WakePark y = Check.told(ONE + "turbine b plain of 1 at 35;");
        y.shut(0);
        Check.same("b parts them, a that is shut does not", y.ask(), 1);
        // By a wind of 9 from anywhere a parts nothing; c has wakes from two sides, b and d from one.
        WakePark z = Check.told("turbine a plain of 1 at 35;turbine b plain of 1 at 0;turbine c plain of 1 at 6;"
            + "turbine d plain of 1 at 12;");
        z.see(0, 9);
        guess("four", z, 4, 9, 9, 15);
        // Of the four b gives 9, 9, 2 (5 and 3 are taken), 9; c 4, 9, 4, 9; d 2, 9, 9, 9.
        Check.same("c", z.ask(), 2);
        // By 9 from anywhere at e, of the four a has less by one, b by another one: three of four are alike.
        WakePark e = Check.told(TWO + "turbine e plain of 1 at 35;");
        e.see(2, 9);
        guess("four", e, 4, 9, 9, 15);
        Check.same("a", e.ask(), 0);
        Check.same("by the greatest POWER", Check.told(ONE + "gives 99*(wind<15);").ask(), 0);
        WakePark last = Check.told(SIX);
        for (int i = 0; i < 5; i++) {
            last.shut(i);
        }
        Check.same("the sixth", last.ask(), 5);
    }

    private static void askingOfEqualOnes() {
        Check.says(35, "of equal ones the first");
        Check.same("a", Check.told(ONE + "turbine b plain of 1 at 35;").ask(), 0);
        WakePark x = Check.told(ONE + "turbine b plain of 1 at 35;turbine c plain of 1 at 20;");
        x.shut(0);
        Check.same("b", x.ask(), 1);
    }

    private static void nonePartsThem() {
        Check.says(35, "if that is less than all");
        Check.same("all alike", Check.told(ONE + "gives 5;").ask(), -1);
        Check.same("but one", Check.told(ONE + "gives 5+(wind=30);").ask(), 0);
        Check.says(35, "ASK; NONE: none parts them.");
        Check.same("no turbines", new WakePark().ask(), -1);
        WakePark x = Check.told(TWO);
        x.see(1, 5);
        x.see(0, 5);
        guess("two are left", x, 2, 5, 5, 2 + 8);
        Check.same("that are alike", x.ask(), -1);
        x.see(0, 6);
        guess("no wind is left", x, 0, -1, -1, 0);
        Check.same("no wind is left", x.ask(), -1);
        WakePark y = Check.told(TWO);
        y.see(1, 5);
        y.see(0, 10);
        guess("one is left", y, 1, 10, 10, 1);
        Check.same("one is left", y.ask(), -1);
        Twin.leaves("ask", z -> z.ask(), -1);
    }

    private static void chances() {
        Check.says(36, "as strong as told by odds of ten");
        WakePark x = Check.told(ONE + "blows 20;");
        for (int odds = 0; odds <= 10; odds++) {
            Check.same("20 by " + odds, x.chance(0, 20, odds), 100000 * odds);
            Check.same("11 by " + odds, x.chance(0, 11, odds), 100000 * odds);
            Check.same("10 by " + odds, x.chance(0, 10, odds), 1000000);
            Check.same("21 by " + odds, x.chance(0, 21, odds), 0);
        }
        Check.says(36, "that one gives so much POWER (1 to 99) or more, in millionths, cut");
        Check.same("1", x.chance(0, 1, 7), 1000000);
        Check.same("99", x.chance(0, 99, 7), 0);
        Check.same("99 of 99", Check.told(ONE + "gives 99;").chance(0, 99, 3), 1000000);
        Check.same("99 of 98", Check.told(ONE + "gives 98;").chance(0, 99, 3), 0);
        x.turn(0, 1);
        Check.same("turned: 18", x.chance(0, 18, 4), 400000);
        Check.same("turned: 19", x.chance(0, 19, 4), 0);
        x.shut(0);
        Check.same("shut", x.chance(0, 1, 10), 0);
        Check.same("less wind gives more", Check.told(ONE + "blows 30;gives 40-wind;").chance(0, 25, 4), 600000);
    }

    private static void halfAsStrong() {
        Check.says(36, "else half as strong, cut");
        for (int blows = 0; blows <= 30; blows++) {
            WakePark x = Check.told(ONE + "blows " + blows + ";gives wind+1;");
            Check.same("half of " + blows, x.chance(0, blows / 2 + 1, 0), 1000000);
            Check.same("more than half of " + blows, x.chance(0, blows / 2 + 2, 0), 0);
        }
        WakePark x = Check.told(ONE + "blows 15;");
        Check.same("half of 15 is 7", x.chance(0, 8, 3), 300000);
        Check.same("half of 15 is 7", x.chance(0, 7, 3), 1000000);
        // Half of 3 is 1, of which 3 tenths are taken by a wind from the north: nothing is left (of 1.5 it were 1).
        x = Check.told(TWO + "blows 3;wakes 3 0 0;");
        Check.same("cut ahead of what is taken", x.chance(1, 1, 0), 750000);
        Check.same("2 of 3", x.chance(1, 2, 10), 1000000);
    }

    private static void chancesOfTheFour() {
        Check.says(36, "CHANCE: the wind comes from each of the four, all alike");
        WakePark x = Check.told(TWO + "blows 10 20;from 2;");
        Check.same("b from three", x.chance(1, 10, 5), 375000);
        Check.same("b from three, half", x.chance(1, 5, 0), 750000);
        Check.same("b", x.chance(1, 5, 3), 300000 + 525000);
        Check.same("the least that is not 0", x.chance(1, 10, 1), 75000);
        x.step();
        Check.same("what blows now", x.chance(1, 10, 1), 100000 + 675000);
        x.shut(0);
        Check.same("a is shut", x.chance(1, 10, 1), 1000000);
        WakePark y = Check.told("turbine m plain of 1 at 14;turbine n plain of 1 at 8;turbine e plain of 1 at 15;"
            + "turbine s plain of 1 at 20;turbine w plain of 1 at 13;");
        Check.same("wakes from all four", y.chance(0, 6, 10), 0);
        y.shut(3);
        Check.same("from three", y.chance(0, 6, 10), 250000);
        y.shut(1);
        Check.same("from two", y.chance(0, 6, 10), 500000);
        y.shut(2);
        Check.same("from one", y.chance(0, 6, 10), 750000);
        Check.same("by one of ten", y.chance(0, 6, 1), 75000);
    }

    private static void chancesOfOthers() {
        Check.says(36, "CHANCE, by odds (0 to 10); NONE: others.");
        WakePark x = Check.told(TWO);
        for (int other : OTHERS) {
            Check.same("turbine " + other, x.chance(other, 5, 5), -1);
        }
        for (int power : new int[] {0, -1, 100, 101, Integer.MIN_VALUE, Integer.MAX_VALUE}) {
            Check.same("power " + power, x.chance(1, power, 5), -1);
        }
        for (int odds : new int[] {-1, 11, 12, Integer.MIN_VALUE, Integer.MAX_VALUE}) {
            Check.same("odds " + odds, x.chance(1, 5, odds), -1);
        }
        Check.same("odds 0", x.chance(0, 10, 0), 0);
        Check.same("odds 10, but not from the south", x.chance(0, 10, 10), 750000);
        Check.same("a seventh", Check.told(SIX).chance(6, 5, 5), -1);
        Check.same("none at all", new WakePark().chance(0, 5, 5), -1);
        // a gives 21 by a wind of 20 and 12 by one of 10; no other one takes of it but c from the south, aside.
        Twin.leaves("chance", y -> y.chance(0, 21, 3), 300000);
        Twin.leaves("power 0", y -> y.chance(0, 0, 3), -1);
        Twin.leaves("power 100", y -> y.chance(0, 100, 3), -1);
        Twin.leaves("odds 11", y -> y.chance(0, 1, 11), -1);
        Twin.leaves("odds -1", y -> y.chance(0, 1, -1), -1);
        Twin.leaves("another one", y -> y.chance(4, 1, 3), -1);
    }
}
