/** Promises 37 to 40: a sea at rest, days by draws, marks, counts. */
public final class RestTest {
    private static final String FOUR = "turbine a plain of 1 at 0;turbine b old of 2 at 6;turbine c small of 1 at 7;"
        + "turbine d tall of 2 at 12;cable a home holds 20;cable b to a holds 9;cable d home holds 12;price 13 8 17;"
        + "blows 10 22;from 0 3 2;wears 4;slack 2;";

    public static void main(String[] args) {
        resting();
        drawing();
        drawingNothing();
        marking();
        counting();
        Check.end();
    }

    private static void resting() {
        WakePark x = new WakePark();
        for (int lose = 0; lose <= 9; lose++) {
            for (int turns = 0; turns <= 9; turns++) {
                for (int stays = 0; stays <= 9; stays++) {
                    // One of two turns is always at rest; both stay if turning gets nothing; both turn if nothing is lost.
                    int[] due = new int[4];
                    int n = 0;
                    if (turns == 0) {
                        due[n++] = 0;
                    }
                    due[n++] = 1;
                    due[n++] = 2;
                    if (lose == 0 && stays == 0) {
                        due[n++] = 3;
                    }
                    String what = "rests " + lose + " " + turns + " " + stays;
                    Check.same(what, Check.rests(x, lose, turns, stays, -1), n);
                    for (int i = 0; i < 4; i++) {
                        Check.same(what + " " + i, Check.rests(x, lose, turns, stays, i), i < n ? due[i] : -9);
                    }
                }
            }
        }
        for (int other : new int[] {-1, 10, Integer.MIN_VALUE, Integer.MAX_VALUE}) {
            Check.same("others", Check.rests(x, other, 1, 1, -1), -9);
            Check.same("others", Check.rests(x, 1, other, 1, -1), -9);
            Check.same("others", Check.rests(x, 1, 1, other, -1), -9);
        }
        for (int other : new int[] {-2, 4, Integer.MIN_VALUE, Integer.MAX_VALUE}) {
            Check.same("none such", Check.rests(x, 0, 0, 0, other), -9);
        }
    }

    /** Does by hand what days does by draws. */
    private static int[] byHand(WakePark x, int seed, int steps) {
        long g = seed;
        int sold = 0;
        for (int i = 0; i < steps; i++) {
            if (x.count(0) > 0) {
                g = (g * 1103515245L + 12345L) & 0x7fffffffL;
                int who = (int) ((g >> 16) % x.count(0));
                g = (g * 1103515245L + 12345L) & 0x7fffffffL;
                switch ((int) ((g >> 16) % 6)) {
                    case 0:
                        g = (g * 1103515245L + 12345L) & 0x7fffffffL;
                        x.turn(who, (int) ((g >> 16) % 5));
                        break;
                    case 1:
                        x.shut(who);
                        break;
                    case 2:
                        x.open(who);
                        break;
                    case 3:
                        x.mend(who);
                        break;
                    default:
                        break;
                }
            }
            sold += x.step();
        }
        return new int[] {sold, x.count(8), x.home()};
    }

    private static void drawing() {
        int[][] runs = {{0, 1}, {0, 99}, {1, 40}, {17, 3}, {9999, 99}, {4711, 60}, {123, 99}};
        for (int[] run : runs) {
            WakePark x = Check.told(FOUR);
            x.step();
            x.turn(0, 1);
            int[] got = new int[3];
            for (int what = 0; what < 3; what++) {
                got[what] = x.days(run[0], run[1], what);
            }
            Check.same("all is as it was", x.count(1), 1);
            Check.same("all is as it was", x.count(11), 2);
            Check.same("all is as it was", x.turbine(0, 3), 1);
            int[] due = byHand(x, run[0], run[1]);
            for (int what = 0; what < 3; what++) {
                Check.same("days " + run[0] + " " + run[1] + " " + what, got[what], due[what]);
            }
        }
        WakePark x = Check.told(FOUR);
        for (int other : new int[] {-1, 10000, Integer.MIN_VALUE, Integer.MAX_VALUE}) {
            Check.same("others", x.days(other, 5, 0), -1000000);
        }
        for (int other : new int[] {-1, 0, 100, Integer.MIN_VALUE, Integer.MAX_VALUE}) {
            Check.same("others", x.days(5, other, 0), -1000000);
        }
        for (int other : new int[] {-1, 3, Integer.MIN_VALUE, Integer.MAX_VALUE}) {
            Check.same("others", x.days(5, 5, other), -1000000);
        }
    }

    private static void drawingNothing() {
        WakePark x = new WakePark();
        for (int what = 0; what < 3; what++) {
            Check.same("an empty sea", x.days(5, 99, what), 0);
        }
        // By a SEED of 0 g is 12345, 1406932606, 654583775: the DRAWS are 0, 21468, 9988: a TURNS to 3.
        WakePark y = Check.told("turbine a plain of 1 at 0;cable a home holds 99;price 11 12;blows 10 20;wears 1;");
        Check.same("sold", y.days(0, 1, 0), 9);
        Check.same("broken", y.days(0, 1, 1), 1);
        Check.same("home", y.days(0, 1, 2), 0);
        WakePark z = Check.told("turbine a plain of 1 at 0;cable a home holds 99;price 11 12;blows 10 20;wears 2;");
        Check.same("home of the next step", z.days(0, 1, 2), 18);
    }

    private static void marking() {
        WakePark x = Check.told(FOUR);
        for (int other : new int[] {-1, 4, Integer.MIN_VALUE, Integer.MAX_VALUE}) {
            Check.isNot("none such", x.mark(other, false));
            Check.isNot("none such", x.mark(other, true));
        }
        Check.isNot("nothing is on it", x.mark(0, true));
        x.step();
        x.turn(0, 0);
        x.shut(1);
        x.see(2, 3);
        Check.readDay(x, "step;shut a;");
        Check.is("laid", x.mark(3, false));
        Check.same("a mark can't be undone", x.count(11), 3);
        Check.isNot("of another one", x.mark(2, true));
        int[] before = new int[13];
        for (int what = 0; what < 13; what++) {
            before[what] = x.count(what);
        }
        int worn = x.turbine(3, 6);
        int sold = x.judged(2);
        x.open(1);
        x.turn(0, 4);
        x.step();
        x.step();
        x.step();
        x.see(1, 1);
        Check.readDay(x, "step;step;step;");
        Check.is("another mark", x.mark(0, false));
        Check.is("back", x.mark(3, true));
        for (int what = 0; what < 13; what++) {
            Check.same("as it was, count " + what, x.count(what), what == 11 ? 0 : before[what]);
        }
        Check.same("angle", x.turbine(0, 3), 0);
        Check.same("worn", x.turbine(3, 6), worn);
        Check.same("judged", x.judged(2), sold);
        Check.isNot("nothing can be undone", x.undo());
        Check.is("on", x.mark(0, true));
        Check.same("step", x.count(1), 4);
        Check.same("lines", x.count(9), 3);
        Check.same("seen", x.count(10), 2);
        Check.is("a mark stays", x.mark(3, true));
        Check.same("step", x.count(1), 1);
        x.step();
        Check.is("laid anew", x.mark(3, false));
        x.step();
        Check.is("back", x.mark(3, true));
        Check.same("step", x.count(1), 2);
        Check.feed(x, "oh");
        Check.is("back", x.mark(3, true));
        Check.same("the tape stays", x.count(12), 2);
        Check.same("a faulty park", x.park(), 1);
        Check.is("leaves marks", x.mark(3, true));
        for (int mark = 0; mark < 4; mark++) {
            Check.is("laid", x.mark(mark, false));
        }
        Check.same("a park", Check.readPark(x, FOUR), 0);
        for (int mark = 0; mark < 4; mark++) {
            Check.isNot("takes them", x.mark(mark, true));
        }
    }

    private static void counting() {
        WakePark x = Check.told(FOUR);
        x.step();
        x.turn(1, 1);
        x.shut(2);
        x.see(0, 1);
        Check.readDay(x, "step;step;");
        Check.feed(x, "step");
        int[] due = {4, 1, 22, 3, -2, 0, 0, 11, 0, 2, 1, 3, 4};
        for (int what = 0; what < 13; what++) {
            if (what != 5 && what != 6) {
                Check.same("count " + what, x.count(what), due[what]);
            }
        }
        int all = 0;
        for (int i = 0; i < 4; i++) {
            all += x.power(i);
        }
        Check.same("POWER of all", x.count(5), all);
        // From the north: a gives 10, b 5, of which all 15 come home; d has 10 less 3 + 5, a tenth less: 3.
        Check.same("sold", x.count(6), 3 * (15 + 3));
        for (int other : new int[] {-1, 13, Integer.MIN_VALUE, Integer.MAX_VALUE}) {
            Check.same("others", x.count(other), -1000000);
        }
    }
}
