import java.util.NoSuchElementException;

/** Promises 37 to 40, sentence by sentence: a sea at rest, days by draws, marks, counts. */
public final class RestTest {
    private static final String ONE = "turbine a plain of 1 at 0;";
    private static final String FOUR = ONE + "turbine b old of 2 at 6;turbine c small of 1 at 7;turbine d tall of 2 at 12;"
        + "cable a home holds 20;cable b to a holds 9;cable d home holds 12;price 13 8 17;blows 10 22;from 0 3 2;wears 4;slack 2;";
    private static final String SIX = ONE + "turbine b plain of 1 at 1;turbine c plain of 1 at 2;turbine d plain of 1 at 3;"
        + "turbine e plain of 1 at 4;turbine f plain of 1 at 5;";

    public static void main(String[] args) {
        resting();
        restingInOrder();
        restingOthers();
        drawing();
        drawingByHand();
        drawingEachDeed();
        drawingNothing();
        drawingOthers();
        marksHold();
        marksFourOfThem();
        marksGoneBackTo();
        marksRefused();
        counting();
        countingBits();
        countingOthers();
        Check.end();
    }

    private static void resting() {
        Check.says(37, "RESTS: by which neither would get more by the other");
        WakePark x = new WakePark();
        for (int lose = 0; lose <= 9; lose++) {
            for (int turns = 0; turns <= 9; turns++) {
                for (int stays = 0; stays <= 9; stays++) {
                    // One of two turns is always at rest; both stay if turning gets nothing; both turn if nothing is lost.
                    int due = 2 + (turns == 0 ? 1 : 0) + (lose == 0 && stays == 0 ? 1 : 0);
                    Check.same("rests " + lose + " " + turns + " " + stays, Check.rests(x, lose, turns, stays, -1), due);
                }
            }
        }
        Check.says(37, "both turn: each loses so much (0 to 9)");
        Check.same("nothing is lost", Check.rests(x, 0, 5, 0, 2), 3);
        Check.same("nine are lost", Check.rests(x, 9, 5, 0, 2), -9);
        Check.same("one is lost", Check.rests(x, 1, 5, 0, 2), -9);
        Check.says(37, "one turns: it gets so much (0 to 9), the other one so much (0 to 9); both stay: nothing");
        Check.same("it gets nothing", Check.rests(x, 1, 0, 1, 0), 0);
        Check.same("it gets one", Check.rests(x, 1, 1, 1, 0), 1);
        Check.same("the other one gets nothing", Check.rests(x, 0, 1, 0, 2), 3);
        Check.same("the other one gets one", Check.rests(x, 0, 1, 1, 2), -9);
    }

    private static void restingInOrder() {
        Check.says(37, "i: the i-th as 2 * the first one's choice + the other one's (1 turns; the least first)");
        WakePark x = new WakePark();
        int[][] due = {{0, 0, 0, 0, 1, 2, 3}, {1, 0, 0, 0, 1, 2, -9}, {0, 1, 0, 1, 2, 3, -9}, {0, 0, 1, 0, 1, 2, -9},
            {1, 1, 1, 1, 2, -9, -9}, {9, 9, 9, 1, 2, -9, -9}, {9, 0, 9, 0, 1, 2, -9}, {0, 9, 0, 1, 2, 3, -9}};
        for (int[] row : due) {
            for (int i = 0; i < 4; i++) {
                Check.same("the " + i + "-th of " + row[0] + " " + row[1] + " " + row[2],
                    Check.rests(x, row[0], row[1], row[2], i), row[3 + i]);
            }
        }
    }

    private static void restingOthers() {
        Check.says(37, "NoSuchElementException: others, none such.");
        WakePark x = Check.told(FOUR);
        for (int other : new int[] {-1, 10, 11, Integer.MIN_VALUE, Integer.MAX_VALUE}) {
            for (int what = -1; what <= 0; what++) {
                Check.same("lose " + other, Check.rests(x, other, 1, 1, what), -9);
                Check.same("turns " + other, Check.rests(x, 1, other, 1, what), -9);
                Check.same("stays " + other, Check.rests(x, 1, 1, other, what), -9);
            }
        }
        Check.same("the fourth of four", Check.rests(x, 0, 0, 0, 3), 3);
        for (int other : new int[] {-2, 4, 5, Integer.MIN_VALUE, Integer.MAX_VALUE}) {
            Check.same("none such " + other, Check.rests(x, 0, 0, 0, other), -9);
        }
        Check.same("the second of two", Check.rests(x, 9, 9, 9, 1), 2);
        Check.same("the third of two", Check.rests(x, 9, 9, 9, 2), -9);
        String name = "";
        try {
            x.rests(1, 1, 1, 2);
        } catch (NoSuchElementException thrown) {
            name = thrown.getClass().getName();
        }
        Check.is("this very class", name.equals("java.util.NoSuchElementException"));
        Twin.leaves("rests", y -> Check.rests(y, 1, 1, 1, -1), 2);
        Twin.leaves("none such", y -> Check.rests(y, 1, 1, 1, 2), -9);
        Twin.leaves("others", y -> Check.rests(y, 10, 1, 1, -1), -9);
    }

    /** Does by hand what days does by draws. */
    private static int[] byHand(WakePark x, int seed, int steps) {
        long g = seed;
        int sold = 0;
        for (int i = 0; i < steps; i++) {
            if (x.count(0) > 0) {
                g = (g * 1103515245L + 12345L) & 0x7fffffffL;
                int who = (int) ((g >> 16) % x.count(0));
                g = (g * 1103515245L + 12345L) & 0x7fffffffL;
                switch ((int) ((g >> 16) % 6)) {
                    case 0:
                        g = (g * 1103515245L + 12345L) & 0x7fffffffL;
                        x.turn(who, (int) ((g >> 16) % 5));
                        break;
                    case 1:
                        x.shut(who);
                        break;
                    case 2:
                        x.open(who);
                        break;
                    case 3:
                        x.mend(who);
                        break;
                    default:
                        break;
                }
            }
            sold += x.step();
        }
        return new int[] {sold, x.count(8), x.home()};
    }

    private static void drawing() {
        Check.says(38, "DAYS by a SEED of so many STEPS (1 to 99), from now on (all is as ahead then)");
        int[][] runs = {{0, 1}, {0, 99}, {1, 40}, {17, 3}, {9999, 99}, {9999, 1}, {4711, 60}, {123, 99}};
        String one = ONE + "cable a home holds 30;price 14;wears 3;slack 3;";
        for (String sea : new String[] {FOUR, one, SIX + "cable f home holds 9;price 2;"}) {
            for (int[] run : runs) {
                WakePark x = Check.told(sea);
                x.step();
                x.turn(0, 1);
                int[] got = new int[3];
                for (int what = 0; what < 3; what++) {
                    got[what] = x.days(run[0], run[1], what);
                }
                Check.same("all is as it was", x.count(1), 1);
                Check.same("all is as it was", x.count(11), 2);
                Check.same("all is as it was", x.turbine(0, 3), 1);
                int[] due = byHand(x, run[0], run[1]);
                for (int what = 0; what < 3; what++) {
                    Check.same("days " + run[0] + " " + run[1] + " " + what, got[what], due[what]);
                }
            }
        }
        Twin.leaves("days", y -> y.days(0, 99, 0) < 1000000 ? 1 : 0, 1);
    }

    private static void drawingByHand() {
        Check.says(38, "A DRAW below m: g becomes (g * 1103515245 + 12345) modulo 2147483648 (g is the SEED at first); "
            + "it is g / 65536, cut, modulo m.");
        // By a SEED of 0 g is 12345, 1406932606, 654583775: the DRAWS are 0, 21468, 9988: a TURNS to 3.
        WakePark x = Check.told(ONE + "cable a home holds 99;price 11 12;blows 10 20;wears 1;");
        Check.says(38, "what is sold by these; who is broken at last, as bits; what comes HOME at last");
        Check.same("sold", x.days(0, 1, 0), 9);
        Check.same("broken", x.days(0, 1, 1), 1);
        Check.same("home", x.days(0, 1, 2), 0);
        WakePark y = Check.told(ONE + "cable a home holds 99;price 11 12;blows 10 20;wears 2;");
        Check.same("home of the next step", y.days(0, 1, 2), 18);
        y.step();
        Check.same("sold by these alone", y.days(0, 1, 0), 36);
        Check.same("what was sold stays", y.count(6), 10);
    }

    /** Each deed by its DRAW, where it can be and where it can't. */
    private static void drawingEachDeed() {
        Check.says(38, "a DRAW below these, one below 6: 0: that TURNS by a DRAW below 5, 1: it is SHUT, 2: OPENED, 3: MENDED "
            + "(each if it can be); then the STEP");
        int[] met = new int[12];
        for (int seed = 0; seed < 60; seed++) {
            long g = (seed * 1103515245L + 12345L) % 2147483648L;
            int who = (int) (g / 65536 % 2);
            g = (g * 1103515245L + 12345L) % 2147483648L;
            int deed = (int) (g / 65536 % 6);
            for (int state = 0; state < 2; state++) {
                WakePark x = broken(state);
                int[] got = {x.days(seed, 1, 0), x.days(seed, 1, 1), x.days(seed, 1, 2)};
                boolean can = false;
                if (deed == 0) {
                    long angle = (g * 1103515245L + 12345L) % 2147483648L / 65536 % 5;
                    can = x.turn(who, (int) angle) != -1;
                } else if (deed == 1) {
                    can = x.shut(who);
                } else if (deed == 2) {
                    can = x.open(who);
                } else if (deed == 3) {
                    can = x.mend(who);
                }
                met[deed * 2 + (can ? 1 : 0)]++;
                Check.same("sold by " + seed, got[0], x.step());
                Check.same("broken by " + seed, got[1], x.count(8));
                Check.same("home by " + seed, got[2], x.home());
            }
        }
        for (int deed = 0; deed < 6; deed++) {
            Check.is("some can't be, " + deed, deed == 0 || met[deed * 2] > 0);
            Check.is("some can be, " + deed, deed > 3 || met[deed * 2 + 1] > 0);
        }
    }

    /** a is shut, b is broken; it is slack water (0) or it is not (1). */
    private static WakePark broken(int state) {
        WakePark x = Check.told(ONE + "turbine b old of 2 at 6;cable a home holds 30;cable b home holds 30;price 13;wears 4;slack 2;"
            + "gives 3*wind-worn;");
        x.turn(1, 1);
        x.step();
        x.shut(0);
        if (state == 0) {
            x.step();
        }
        Check.same("b is broken", x.count(8), 2);
        return x;
    }

    private static void drawingNothing() {
        Check.says(38, "each, if there are TURBINES");
        WakePark x = new WakePark();
        for (int steps : new int[] {1, 99}) {
            for (int what = 0; what < 3; what++) {
                Check.same("an empty sea", x.days(5, steps, what), 0);
            }
        }
        Check.same("all is as it was", x.count(1), 0);
    }

    private static void drawingOthers() {
        Check.says(38, "DAYS by a SEED (0 to 9999), what 0: sold, 1: bits, 2: HOME; -1000000: others.");
        WakePark x = Check.told(FOUR);
        for (int other : new int[] {-1, 10000, 10001, Integer.MIN_VALUE, Integer.MAX_VALUE}) {
            Check.same("seed " + other, x.days(other, 5, 0), -1000000);
        }
        for (int other : new int[] {-1, 0, 100, 101, Integer.MIN_VALUE, Integer.MAX_VALUE}) {
            Check.same("steps " + other, x.days(5, other, 0), -1000000);
        }
        for (int other : new int[] {-1, 3, 4, Integer.MIN_VALUE, Integer.MAX_VALUE}) {
            Check.same("what " + other, x.days(5, 5, other), -1000000);
        }
        Check.is("seed 0, a step", x.days(0, 1, 0) != -1000000);
        Check.is("seed 9999, 99 steps", x.days(9999, 99, 2) != -1000000);
        Twin.leaves("another seed", y -> y.days(10000, 5, 0), -1000000);
        Twin.leaves("other steps", y -> y.days(5, 100, 0), -1000000);
        Twin.leaves("no steps", y -> y.days(5, 0, 0), -1000000);
        Twin.leaves("another what", y -> y.days(5, 5, 3), -1000000);
    }

    private static void marksHold() {
        Check.says(39, "MARKS 0 to 3 hold how it is, the DAY, what is SEEN");
        WakePark x = Check.told(FOUR);
        x.step();
        x.turn(0, 0);
        x.shut(1);
        x.see(2, 3);
        Check.readDay(x, "step;shut a;");
        Check.is("laid", x.mark(3, false));
        Check.same("a MARK can't be undone", x.count(11), 3);
        int[] before = new int[13];
        for (int what = 0; what < 13; what++) {
            before[what] = x.count(what);
        }
        int worn = x.turbine(3, 6);
        int sold = x.judged(2);
        int winds = x.winds(0);
        x.open(1);
        x.turn(0, 4);
        x.step();
        x.step();
        x.step();
        x.see(1, 1);
        Check.readDay(x, "step;step;step;");
        Check.is("back", x.mark(3, true));
        for (int what = 0; what < 13; what++) {
            Check.same("as it was, count " + what, x.count(what), what == 11 ? 0 : before[what]);
        }
        Check.same("angle", x.turbine(0, 3), 0);
        Check.same("worn", x.turbine(3, 6), worn);
        Check.same("judged", x.judged(2), sold);
        Check.same("winds", x.winds(0), winds);
        Check.feed(x, "oh");
        Check.is("back", x.mark(3, true));
        Check.same("the TAPE is not held", x.count(12), 2);
        x = Check.told(FOUR);
        Check.is("of nothing done", x.mark(0, false));
        for (int i = 0; i < 8; i++) {
            x.see(0, i);
        }
        Check.readDay(x, "step;".repeat(40));
        Check.is("of all full", x.mark(1, false));
        Check.is("back to nothing", x.mark(0, true));
        Check.same("no line, nothing SEEN", x.count(9) + x.count(10), 0);
        Check.is("back to all full", x.mark(1, true));
        Check.same("40 lines", x.count(9), 40);
        Check.same("8 SEEN", x.count(10), 8);
    }

    private static void marksFourOfThem() {
        Check.says(39, "A MARK is laid (back: gone back to): true");
        WakePark x = Check.told(FOUR);
        for (int mark = 0; mark < 4; mark++) {
            Check.isNot("nothing is on it", x.mark(mark, true));
            Check.is("laid", x.mark(mark, false));
            x.step();
        }
        for (int mark = 3; mark >= 0; mark--) {
            Check.is("back", x.mark(mark, true));
            Check.same("step", x.count(1), mark);
        }
        Check.is("on", x.mark(2, true));
        Check.same("a MARK stays", x.count(1), 2);
        Check.is("again", x.mark(2, true));
        x.step();
        x.step();
        Check.is("laid anew", x.mark(2, false));
        Check.is("another one", x.mark(1, true));
        Check.same("step", x.count(1), 1);
        Check.is("back", x.mark(2, true));
        Check.same("as laid last", x.count(1), 4);
        x.turn(0, 4);
        Check.is("back", x.mark(2, true));
        Check.same("what is done behind it does not change it", x.turbine(0, 3), 2);
        WakePark y = new WakePark();
        Check.is("of an empty sea", y.mark(0, false));
        y.step();
        Check.is("back", y.mark(0, true));
        Check.same("step 0", y.count(1), 0);
    }

    private static void marksGoneBackTo() {
        Check.says(39, "(nothing can be undone when one is gone back to)");
        WakePark x = Check.told(FOUR);
        x.step();
        x.turn(0, 1);
        x.mark(0, false);
        Check.same("laid: all can be undone", x.count(11), 2);
        x.step();
        Check.is("back", x.mark(0, true));
        Check.same("gone back to: nothing can be", x.count(11), 0);
        Check.isNot("undo", x.undo());
        Check.same("as marked", x.count(1), 1);
        x.turn(0, 3);
        Check.same("what is done then can be", x.count(11), 1);
        Check.is("undo", x.undo());
        Check.same("as marked", x.turbine(0, 3), 1);
        Check.isNot("no more", x.undo());
    }

    private static void marksRefused() {
        Check.says(39, "false: none such, nothing is on it (back)");
        WakePark x = Check.told(FOUR);
        x.step();
        for (int other : new int[] {-1, 4, 5, Integer.MIN_VALUE, Integer.MAX_VALUE}) {
            Check.isNot("none such", x.mark(other, false));
            Check.isNot("none such", x.mark(other, true));
        }
        for (int mark = 0; mark < 4; mark++) {
            Check.isNot("nothing is on it", x.mark(mark, true));
        }
        Check.same("as it was", x.count(1), 1);
        Check.same("as it was", x.count(11), 1);
        Twin.leaves("none such, laid", y -> y.mark(4, false) ? 1 : 0, 0);
        Twin.leaves("none such, back", y -> y.mark(4, true) ? 1 : 0, 0);
        Twin.leaves("none such, below", y -> y.mark(-1, true) ? 1 : 0, 0);
        Twin.leaves("nothing is on 1", y -> y.mark(1, true) ? 1 : 0, 0);
        Twin.leaves("nothing is on 3", y -> y.mark(3, true) ? 1 : 0, 0);
        Check.says(39, "no MARK is there");
        for (int mark = 0; mark < 4; mark++) {
            x.mark(mark, false);
        }
        Check.same("a faulty park", Check.readPark(x, "?"), 1);
        for (int mark = 0; mark < 4; mark++) {
            Check.is("leaves them", x.mark(mark, true));
        }
        Check.same("a park", Check.readPark(x, FOUR), 0);
        for (int mark = 0; mark < 4; mark++) {
            Check.isNot("takes them", x.mark(mark, true));
        }
    }

    private static void counting() {
        Check.says(40, "What 0: TURBINES, 1: the step, 2: what blows now, 3: from where, 4: the price less 10");
        WakePark x = Check.told(FOUR);
        int[][] due = {{4, 0, 10, 0, 3}, {4, 1, 22, 3, -2}, {4, 2, 10, 2, 7}, {4, 3, 22, 0, 3}};
        for (int[] row : due) {
            for (int what = 0; what < 5; what++) {
                Check.same("count " + what + " at " + row[1], x.count(what), row[what]);
            }
            x.step();
        }
        Check.same("six", Check.told(SIX).count(0), 6);
        Check.says(40, "5: POWER of all, 6: what was sold");
        x = Check.told(FOUR);
        // a 10, b 5, c 10 (a's wake goes by it), d 10 less 3 + 5 tenths, one less: 3; all but c's come home.
        Check.same("POWER of all", x.count(5), 10 + 5 + 10 + 3);
        Check.same("nothing", x.count(6), 0);
        x.step();
        Check.same("sold", x.count(6), 3 * (15 + 3));
        x.step();
        // From the west: b takes 5 tenths of c's 22.
        Check.same("less is sold, too", x.count(6), 54 - 2 * (20 + 12));
        Check.same("six at their most", Check.told(SIX + "gives 100;").count(5), 594);
        Check.same("nothing", Check.told(SIX + "blows 0;").count(5), 0);
    }

    private static void countingBits() {
        Check.says(40, "7: who is open, as bits, 8: who is broken, as bits");
        WakePark x = Check.told(SIX + "wears 1;");
        Check.same("all are open", x.count(7), 63);
        Check.same("none is broken", x.count(8), 0);
        x.shut(0);
        x.shut(5);
        Check.same("open", x.count(7), 30);
        x.turn(1, 0);
        x.turn(4, 3);
        x.turn(5, 3);
        x.step();
        Check.same("broken", x.count(8), 2 + 16);
        Check.same("open still", x.count(7), 30);
        Check.says(40, "9: lines of the DAY, 10: SEEN, 11: what can be undone, 12: signs on the TAPE");
        Check.readDay(x, "step;shut f;step;");
        x.see(0, 1);
        x.see(0, 1);
        Check.feed(x, "step");
        int[] due = {3, 2, 6, 4};
        for (int what = 9; what <= 12; what++) {
            Check.same("count " + what, x.count(what), due[what - 9]);
        }
    }

    private static void countingOthers() {
        Check.says(40, "-1000000 for another what.");
        WakePark x = Check.told(FOUR);
        Check.same("0", x.count(0), 4);
        Check.same("12", x.count(12), 0);
        for (int other : new int[] {-1, 13, 14, Integer.MIN_VALUE, Integer.MAX_VALUE}) {
            Check.same("others", x.count(other), -1000000);
            Check.same("others", new WakePark().count(other), -1000000);
        }
        Twin.leaves("count", y -> y.count(5), 35);
        Twin.leaves("another what", y -> y.count(13), -1000000);
        Twin.leaves("another what", y -> y.count(-1), -1000000);
    }
}
