/** Promises 10 to 16, sentence by sentence: what is done by hand, undone, and a DAY judged. */
public final class HandTest {
    private static final String ONE = "turbine a plain of 1 at 0;";
    /** b stands behind a and is worn by 2 a step; 5 breaks it. */
    private static final String TWO = ONE + "turbine b old of 2 at 6;cable a home holds 50;cable b home holds 50;price 13 8;"
        + "blows 10;wears 5;slack 2;";
    private static final String SIX = ONE + "turbine b plain of 1 at 1;turbine c plain of 1 at 2;turbine d plain of 1 at 3;"
        + "turbine e plain of 1 at 4;turbine f plain of 1 at 5;wears 1;slack 1;";
    private static final int[] OTHERS = {-1, 2, 6, 7, Integer.MIN_VALUE, Integer.MAX_VALUE};

    public static void main(String[] args) {
        turning();
        turningOthers();
        shutting();
        opening();
        mending();
        mendingOthers();
        mendingAtSlackWater();
        selling();
        wearing();
        breaking();
        theNextStep();
        undoing();
        undoingOneByOne();
        undoingSixteen();
        undoingNothingElse();
        judging();
        judgingLines();
        judgingBreaks();
        judgingNothing();
        Check.end();
    }

    private static void turning() {
        Check.says(10, "TURN: one's ANGLE is so.");
        WakePark x = Check.told(SIX);
        for (int i = 0; i < 6; i++) {
            int ahead = 2;
            for (int angle : new int[] {0, 4, 4, 1, 3, 2}) {
                Check.says(10, "TURN: the ANGLE ahead");
                Check.same("ahead", x.turn(i, angle), ahead);
                Check.same("so", x.turbine(i, 3), angle);
                ahead = angle;
            }
        }
        x = Check.told(TWO);
        x.shut(0);
        Check.same("one that is shut", x.turn(0, 3), 2);
        x.turn(1, 4);
        x.step();
        x.step();
        Check.same("broken", x.turbine(1, 5), 1);
        Check.same("one that is broken", x.turn(1, 1), 4);
        Check.same("so", x.turbine(1, 3), 1);
        Check.same("it takes no time", x.count(1), 2);
        Check.same("the same ANGLE", x.turn(1, 1), 1);
        Check.same("each can be undone", x.count(11), 7);
    }

    private static void turningOthers() {
        Check.says(10, "TURN: the ANGLE ahead; NONE: others.");
        WakePark x = Check.told(TWO);
        for (int other : OTHERS) {
            Check.same("turbine " + other, x.turn(other, 1), -1);
        }
        for (int angle : new int[] {-1, 5, 6, Integer.MIN_VALUE, Integer.MAX_VALUE}) {
            Check.same("angle " + angle, x.turn(1, angle), -1);
            Check.same("as it was", x.turbine(1, 3), 2);
        }
        Check.same("nothing can be undone", x.count(11), 0);
        Check.same("a seventh", Check.told(SIX).turn(6, 1), -1);
        Check.same("none at all", new WakePark().turn(0, 1), -1);
        Twin.leaves("another one", y -> y.turn(4, 1), -1);
        Twin.leaves("below", y -> y.turn(-1, 1), -1);
        Twin.leaves("another angle", y -> y.turn(1, 5), -1);
        Twin.leaves("below", y -> y.turn(1, -1), -1);
    }

    private static void shutting() {
        Check.says(11, "SHUT an open one.");
        WakePark x = Check.told(SIX);
        for (int i = 0; i < 6; i++) {
            Check.is("shut", x.shut(i));
            Check.same("it is", x.turbine(i, 4), 0);
            Check.same("and those ahead", x.count(7), 63 & -2 << i);
        }
        x = Check.told(TWO);
        x.turn(1, 4);
        x.step();
        Check.is("a broken one, too", x.shut(1));
        Check.says(11, "SHUT: true; false: others, it is.");
        Check.isNot("it is", x.shut(1));
        for (int other : OTHERS) {
            Check.isNot("others", x.shut(other));
        }
        Check.same("bits", x.count(7), 1);
        Check.same("what can be undone", x.count(11), 3);
        Check.isNot("a seventh", Check.told(SIX).shut(6));
        Check.isNot("none at all", new WakePark().shut(0));
        Twin.leaves("another one", y -> y.shut(4) ? 1 : 0, 0);
        Twin.leaves("below", y -> y.shut(-1) ? 1 : 0, 0);
        Twin.leaves("it is", y -> y.shut(3) ? 1 : 0, 0);
    }

    private static void opening() {
        Check.says(12, "OPEN a shut one.");
        WakePark x = Check.told(SIX);
        for (int i = 0; i < 6; i++) {
            x.shut(i);
        }
        for (int i = 5; i >= 0; i--) {
            Check.is("open", x.open(i));
            Check.same("it is", x.turbine(i, 4), 1);
            Check.same("and those ahead", x.count(7), 63 & -1 << i);
        }
        x = Check.told(TWO);
        x.turn(1, 4);
        x.step();
        Check.isNot("a broken one is open", x.open(1));
        x.shut(1);
        Check.is("a broken one, too", x.open(1));
        Check.same("broken still", x.count(8), 2);
        Check.says(12, "OPEN: true; false: others, it is.");
        Check.isNot("it is", x.open(1));
        for (int other : OTHERS) {
            Check.isNot("others", x.open(other));
        }
        Check.same("what can be undone", x.count(11), 4);
        Check.isNot("a seventh", Check.told(SIX).open(6));
        Check.isNot("none at all", new WakePark().open(0));
        Twin.leaves("another one", y -> y.open(4) ? 1 : 0, 0);
        Twin.leaves("below", y -> y.open(-1) ? 1 : 0, 0);
        Twin.leaves("it is", y -> y.open(2) ? 1 : 0, 0);
    }

    private static void mending() {
        Check.says(13, "it is whole, not worn");
        WakePark x = Check.told(TWO);
        for (int i = 0; i < 4; i++) {
            x.step();
        }
        Check.same("broken", x.turbine(1, 5), 1);
        Check.same("worn", x.turbine(1, 6), 6);
        Check.is("mend", x.mend(1));
        Check.same("whole", x.turbine(1, 5), 0);
        Check.same("not worn", x.turbine(1, 6), 0);
        Check.same("open as it was", x.turbine(1, 4), 1);
        Check.same("it gives", x.power(1), 5);
        x = Check.told(TWO);
        x.turn(1, 4);
        x.step();
        x.shut(1);
        x.step();
        Check.is("one that is shut, too", x.mend(1));
        Check.same("whole", x.turbine(1, 5), 0);
        Check.same("shut as it was", x.turbine(1, 4), 0);
        Check.same("turned as it was", x.turbine(1, 3), 4);
    }

    private static void mendingOthers() {
        Check.says(13, "MEND: true; false: others, whole, no slack water.");
        WakePark x = Check.told(TWO);
        for (int other : OTHERS) {
            Check.isNot("others", x.mend(other));
        }
        Check.isNot("whole", x.mend(1));
        x.step();
        x.step();
        Check.same("worn", x.turbine(1, 6), 4);
        Check.isNot("worn, but whole, at slack water", x.mend(1));
        Check.same("as worn", x.turbine(1, 6), 4);
        x.step();
        Check.same("broken", x.turbine(1, 5), 1);
        Check.isNot("no slack water", x.mend(1));
        Check.same("broken still", x.turbine(1, 5), 1);
        Check.same("as worn", x.turbine(1, 6), 6);
        x.step();
        Check.isNot("the other one is whole", x.mend(0));
        Check.is("slack water", x.mend(1));
        Check.isNot("whole", x.mend(1));
        Check.same("what can be undone", x.count(11), 5);
        Check.isNot("a seventh", Check.told(SIX).mend(6));
        Check.isNot("none at all", new WakePark().mend(0));
        Twin.leaves("another one", y -> y.mend(4) ? 1 : 0, 0);
        Twin.leaves("below", y -> y.mend(-1) ? 1 : 0, 0);
        Twin.leaves("whole", y -> y.mend(0) ? 1 : 0, 0);
        WakePark one = Twin.lived("oh");
        WakePark other = Twin.lived("oh");
        one.step();
        other.step();
        Check.isNot("no slack water", one.mend(1));
        Twin.alike("no slack water leaves all", one, other);
    }

    private static void mendingAtSlackWater() {
        Check.says(13, "MEND a broken one, if the step is one of each so many that slack tells (the steps 0, 6 ..)");
        WakePark x = Check.told(ONE + "wears 1;");
        x.turn(0, 1);
        for (int step = 1; step <= 19; step++) {
            x.step();
            boolean slack = step == 6 || step == 12 || step == 18;
            Check.same("slack each 6, at " + step, x.mend(0) ? 1 : 0, slack ? 1 : 0);
        }
        for (int each : new int[] {1, 5, 12}) {
            x = Check.told(ONE + "wears 1;slack " + each + ";");
            x.turn(0, 1);
            for (int step = 1; step <= 37; step++) {
                x.step();
                Check.same("each " + each + ", at " + step, x.mend(0) ? 1 : 0, step % each == 0 ? 1 : 0);
            }
        }
        // A step undone is slack water again.
        x = Check.told(ONE + "wears 1;");
        x.turn(0, 1);
        for (int i = 0; i < 7; i++) {
            x.step();
        }
        Check.isNot("at 7", x.mend(0));
        x.undo();
        Check.is("at 6", x.mend(0));
    }

    private static void selling() {
        Check.says(14, "STEP: HOME times the price less 10 is sold");
        for (int price = 0; price <= 20; price++) {
            WakePark x = Check.told(ONE + "cable a home holds 7;price " + price + ";");
            Check.same("by a price of " + price, x.step(), 7 * (price - 10));
            Check.same("sold", x.count(6), 7 * (price - 10));
        }
        WakePark x = Check.told(TWO);
        int[] sold = {45, -30, 45, -20, 30, -20};
        int all = 0;
        for (int i = 0; i < sold.length; i++) {
            Check.same("sold in " + i, x.step(), sold[i]);
            all += sold[i];
            Check.same("sold by " + i, x.count(6), all);
        }
        Check.same("without a cable", Check.told(ONE + "price 20;").step(), 0);
        Check.same("without wind", Check.told(ONE + "cable a home holds 7;blows 0;price 20;").step(), 0);
        Check.same("an empty sea", new WakePark().step(), 0);
        Check.same("what breaks in it is sold still", Check.told(TWO.replace("wears 5", "wears 1")).step(), 45);
        Check.same("the most", Check.told(ONE + "gives 99;cable a home holds 200;price 20;").step(), 990);
    }

    private static void wearing() {
        Check.says(14, "each that is open and whole is worn by as much as it is turned, and 1 if anything is TAKEN of it, "
            + "an old one by twice that");
        for (String kind : new String[] {"plain", "tall", "old", "small"}) {
            int times = kind.equals("old") ? 2 : 1;
            for (int angle = 0; angle < 5; angle++) {
                WakePark x = Check.told("turbine a " + kind + " of 1 at 0;turbine b " + kind + " of 1 at 6;wakes 5 0 0;wears 99;");
                x.turn(1, angle);
                x.step();
                int turned = Math.abs(angle - 2);
                Check.same(kind + " by " + angle, x.turbine(1, 6), times * (turned + 1));
                Check.same("in front, straight", x.turbine(0, 6), 0);
                x.shut(0);
                x.step();
                Check.same("of whom nothing is TAKEN", x.turbine(1, 6), times * (2 * turned + 1));
                x.shut(1);
                x.step();
                Check.same("one that is shut is not", x.turbine(1, 6), times * (2 * turned + 1));
            }
        }
        for (int tenths = 0; tenths <= 9; tenths++) {
            WakePark x = Check.told(ONE + "turbine b plain of 1 at 6;turbine c tall of 1 at 1;turbine d tall of 1 at 7;wakes "
                + tenths + " 0 0;");
            x.step();
            Check.same(tenths + " tenths", x.turbine(1, 6), tenths > 0 ? 1 : 0);
            Check.same(tenths + " tenths of a tall one", x.turbine(3, 6), tenths > 1 ? 1 : 0);
        }
        WakePark x = Check.told(ONE + "turbine b plain of 1 at 6;blows 0;");
        x.step();
        Check.same("tenths of no wind are TAKEN, too", x.turbine(1, 6), 1);
        x = Check.told(TWO);
        for (int i = 0; i < 8; i++) {
            x.step();
        }
        Check.same("one that is broken is not", x.turbine(1, 6), 6);
    }

    private static void breaking() {
        Check.says(14, "who is worn by as much as wears tells, or more, is broken");
        WakePark x = Check.told(ONE + "wears 3;");
        x.turn(0, 1);
        x.step();
        x.step();
        Check.same("by one less", x.turbine(0, 6), 2);
        Check.same("it is whole", x.count(8), 0);
        x.step();
        Check.same("by as much", x.turbine(0, 6), 3);
        Check.same("it is broken", x.count(8), 1);
        x = Check.told(ONE + "wears 3;");
        x.turn(0, 0);
        x.step();
        Check.same("whole", x.count(8), 0);
        x.step();
        Check.same("by more", x.turbine(0, 6), 4);
        Check.same("it is broken", x.count(8), 1);
        x = Check.told(SIX);
        for (int i = 0; i < 6; i++) {
            x.turn(i, i % 2 == 0 ? 1 : 4);
        }
        x.step();
        Check.same("all at once", x.count(8), 63);
        Check.same("open still", x.count(7), 63);
        // a breaks in this step, and its wake wears b in it still.
        x = Check.told(ONE + "turbine b plain of 1 at 6;wears 1;");
        x.turn(0, 1);
        x.step();
        Check.same("both", x.count(8), 3);
    }

    private static void theNextStep() {
        Check.says(14, "It is the next step.");
        WakePark x = Check.told(ONE + "blows 1 2 3;from 1 2;price 9 8 7 6;");
        for (int step = 0; step < 30; step++) {
            Check.same("step", x.count(1), step);
            Check.same("blows", x.count(2), step % 3 + 1);
            Check.same("from", x.count(3), step % 2 + 1);
            Check.same("price", x.count(4), -1 - step % 4);
            x.step();
        }
        WakePark y = new WakePark();
        y.step();
        Check.same("of an empty sea", y.count(1), 1);
    }

    private static void undoing() {
        Check.says(15, "UNDO: true; false: nothing can be.");
        WakePark x = Check.told(TWO);
        Check.isNot("nothing was done", x.undo());
        x.turn(0, 0);
        Check.is("one", x.undo());
        Check.isNot("no more", x.undo());
        Check.same("as at first", x.turbine(0, 3), 2);
        WakePark y = new WakePark();
        Check.isNot("of an empty sea", y.undo());
        y.step();
        Check.is("its step", y.undo());
        Check.same("step 0", y.count(1), 0);
        WakePark one = Twin.lived("oh");
        WakePark other = Twin.lived("oh");
        for (int i = 0; i < 7; i++) {
            Check.is("all", one.undo());
            Check.is("all", other.undo());
        }
        Check.isNot("no more", one.undo());
        Twin.alike("a refused undo leaves all", one, other);
    }

    private static void undoingOneByOne() {
        Check.says(15, "UNDO: all of these, the last 16, one by one.");
        WakePark x = Check.told(TWO);
        x.step();
        x.step();
        x.turn(0, 0);
        x.turn(0, 2);
        x.step();
        Check.same("broken", x.count(8), 2);
        x.step();
        x.mend(1);
        x.shut(1);
        x.open(1);
        Check.same("done", x.count(11), 9);
        Check.is("undo open", x.undo());
        Check.same("shut", x.count(7), 1);
        Check.is("undo shut", x.undo());
        Check.same("open", x.count(7), 3);
        Check.is("undo mend", x.undo());
        Check.same("broken", x.count(8), 2);
        Check.same("worn", x.turbine(1, 6), 6);
        Check.is("undo step", x.undo());
        Check.same("step", x.count(1), 3);
        Check.same("sold", x.count(6), 60);
        Check.is("undo step", x.undo());
        Check.same("whole", x.count(8), 0);
        Check.same("worn", x.turbine(1, 6), 4);
        Check.same("sold", x.count(6), 15);
        Check.is("undo turn", x.undo());
        Check.same("angle", x.turbine(0, 3), 0);
        Check.is("undo turn", x.undo());
        Check.same("angle", x.turbine(0, 3), 2);
        Check.same("left", x.count(11), 2);
        Check.same("done again", x.step(), 45);
        Check.same("left", x.count(11), 3);
        Check.is("undo it", x.undo());
        Check.is("undo step", x.undo());
        Check.is("undo step", x.undo());
        Check.same("at first", x.count(1) + x.count(6) + x.turbine(1, 6), 0);
    }

    private static void undoingSixteen() {
        Check.says(15, "the last 16");
        for (int done : new int[] {1, 15, 16, 17, 31, 32, 33, 40}) {
            WakePark x = Check.told(TWO);
            for (int i = 1; i <= done; i++) {
                x.turn(0, i % 5);
                Check.same("can be undone", x.count(11), Math.min(i, 16));
            }
            int most = Math.min(done, 16);
            for (int i = done; i > done - most; i--) {
                Check.same("angle", x.turbine(0, 3), i % 5);
                Check.is("undo", x.undo());
                Check.same("left", x.count(11), i - 1 - (done - most));
            }
            Check.isNot("no more of " + done, x.undo());
            Check.same("angle", x.turbine(0, 3), done <= 16 ? 2 : (done - 16) % 5);
        }
        // Undone and done again, in turn, round and round.
        WakePark x = Check.told(TWO);
        for (int i = 0; i < 50; i++) {
            x.step();
            x.step();
            Check.is("undo", x.undo());
            Check.same("step", x.count(1), i + 1);
            Check.same("can be undone", x.count(11), Math.min(i + 1, i < 15 ? 16 : 15));
        }
    }

    private static void undoingNothingElse() {
        Check.says(15, "UNDO: all of these");
        WakePark x = Check.told(TWO);
        x.turn(0, 1);
        x.see(0, 3);
        x.mark(1, false);
        Check.readDay(x, "step;step;");
        Check.feed(x, "oh");
        x.turn(0, 9);
        x.shut(9);
        x.open(0);
        x.mend(0);
        Check.same("what is not of these, or refused, is not undone", x.count(11), 1);
        Check.is("the turn", x.undo());
        Check.same("straight", x.turbine(0, 3), 2);
        Check.same("SEEN", x.count(10), 1);
        Check.same("the DAY", x.count(9), 2);
        Check.same("the TAPE", x.count(12), 2);
        Check.is("the MARK", x.mark(1, true));
        Check.same("as marked", x.turbine(0, 3), 1);
    }

    private static void judging() {
        Check.says(16, "JUDGED, what 0, 1: lines (NONE: none), 2: what is sold; -1000000: others.");
        WakePark x = Check.told(TWO);
        Check.same("day", Check.readDay(x, "turn a 0;step;step;shut b;step;open a;mend b;step;mend a;open b;step;"), 0);
        Check.same("can't be", x.judged(0), 5);
        Check.same("breaks", x.judged(1), 4);
        Check.same("sold", x.judged(2), 48 - 32 + 18 + 0 + 48);
        for (int other : new int[] {-1, 3, 4, Integer.MIN_VALUE, Integer.MAX_VALUE}) {
            Check.same("others", x.judged(other), -1000000);
        }
        Check.says(16, "JUDGED: the DAY from the beginning");
        x.step();
        x.shut(0);
        x.turn(1, 4);
        x.step();
        Check.same("can't be", x.judged(0), 5);
        Check.same("breaks", x.judged(1), 4);
        Check.same("sold", x.judged(2), 48 - 32 + 18 + 0 + 48);
        for (int what = -1; what <= 3; what++) {
            int asked = what;
            // For 3 each: of a 10 and of b 4, of which 12 are carried, of c 6; then, b being shut, 12 and 21 for -2.
            int[] due = {-1000000, 3, -1, 3 * (12 + 6) - 2 * (12 + 21), -1000000};
            Twin.leaves("judged " + what, y -> y.judged(asked), due[what + 1]);
        }
    }

    private static void judgingLines() {
        Check.says(16, "(a line that can't be is left out; turn, a step always can): the first line (from 0) that can't be");
        WakePark x = Check.told(TWO);
        String[] days = {"shut a;", "shut a;shut a;", "open a;", "shut a;open a;open a;", "mend a;", "step;step;step;mend b;",
            "step;step;step;step;mend b;", "step;step;step;step;mend b;mend b;", "turn a 2;turn a 2;step;step;",
            "open b;open a;mend a;shut a;", "shut b;step;step;step;step;step;step;mend b;",
            "step;step;step;shut b;step;mend b;open b;shut b;"};
        int[] due = {-1, 1, 0, 2, 0, 3, -1, 5, -1, 0, 7, -1};
        for (int i = 0; i < days.length; i++) {
            Check.same("day", Check.readDay(x, days[i]), 0);
            Check.same("of " + days[i], x.judged(0), due[i]);
        }
        Check.same("the last of 40", Check.readDay(x, "step;".repeat(39) + "open a;"), 0);
        Check.same("line 39", x.judged(0), 39);
        Check.same("left out", Check.readDay(x, "shut a;shut a;mend b;open b;step;"), 0);
        Check.same("b alone sells", x.judged(2), 30);
    }

    private static void judgingBreaks() {
        Check.says(16, "the first step's line by which one breaks; what is sold at last");
        WakePark x = Check.told(TWO);
        Check.readDay(x, "step;step;");
        Check.same("by none", x.judged(1), -1);
        Check.readDay(x, "step;step;step;");
        Check.same("by the third", x.judged(1), 2);
        Check.readDay(x, "turn a 2;step;step;step;mend b;step;mend b;step;step;step;");
        Check.same("the first of two", x.judged(1), 3);
        Check.same("sold", x.judged(2), 45 - 30 + 45 - 20 + 45 - 30 + 45);
        Check.readDay(x, "turn b 4;step;");
        Check.same("6 at once", x.judged(1), 1);
        Check.readDay(x, "turn a 0;step;step;shut b;step;step;");
        Check.same("a, by the third step", x.judged(1), 4);
        Check.readDay(x, "step;".repeat(40));
        Check.same("sold by 40 steps", x.judged(2), 45 - 30 + 45 - 20 * 19 + 30 * 18);
        x = Check.told(TWO.replace("wears 5", "wears 80"));
        Check.readDay(x, "step;".repeat(40));
        Check.same("by the last of 40", x.judged(1), 39);
    }

    private static void judgingNothing() {
        Check.says(16, "lines (NONE: none)");
        WakePark x = Check.told(TWO);
        x.step();
        Check.same("no line", x.judged(0), -1);
        Check.same("no line", x.judged(1), -1);
        Check.same("nothing", x.judged(2), 0);
        WakePark y = new WakePark();
        Check.same("day", Check.readDay(y, "step;step;"), 0);
        Check.same("of an empty sea", y.judged(0), -1);
        Check.same("of an empty sea", y.judged(1), -1);
        Check.same("of an empty sea", y.judged(2), 0);
    }
}
