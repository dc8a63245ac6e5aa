/** Promises 5 to 9, sentence by sentence: facts of a turbine, WAKES, WIND, POWER, cables, HOME. */
public final class SeaTest {
    private static final String SIX = "turbine a plain of 1 at 0;turbine b tall of 2 at 1;turbine c old of 1 at 2;"
        + "turbine d small of 2 at 35;turbine e plain of 1 at 4;turbine f plain of 1 at 5;";
    private static final String TWO = "turbine a plain of 1 at 0;turbine b plain of 1 at 6;";
    private static final int[] OTHERS = {-1, 6, 7, Integer.MIN_VALUE, Integer.MAX_VALUE};

    /** For each side of the wind: who stands at the edge, and the CELLS 1, 2, 3, 4 behind it, straight and to both sides. */
    private static final int[] EDGE = {3, 23, 33, 18};
    private static final int[][] MIDDLE = {{9, 15, 21, 27}, {22, 21, 20, 19}, {27, 21, 15, 9}, {19, 20, 21, 22}};
    private static final int[][] LOW = {{8, 14, 20, 26}, {16, 15, 14, 13}, {26, 20, 14, 8}, {13, 14, 15, 16}};
    private static final int[][] HIGH = {{10, 16, 22, 28}, {28, 27, 26, 25}, {28, 22, 16, 10}, {25, 26, 27, 28}};
    private static final int[][] FAR = {{7, 13, 19, 25}, {10, 9, 8, 7}, {25, 19, 13, 7}, {7, 8, 9, 10}};

    public static void main(String[] args) {
        factsOfATurbine();
        factsOfOthers();
        openBrokenWorn();
        whereItsCableGoes();
        windOfOthers();
        openAndWhole();
        cellsAreSixRows();
        theWayTheWindGoes();
        anglesAreTurned();
        aside();
        asFarAsTheSeaGoes();
        aSmallOne();
        taken();
        aTallOne();
        windIsCut();
        powerOfOthers();
        powerIsBounded();
        powerOfOneTurned();
        powerOfOneShutOrBroken();
        carriedOfOthers();
        carried();
        home();
        Check.end();
    }

    private static void factsOfATurbine() {
        Check.says(5, "what 0: KIND (0 plain, 1 tall, 2 old, 3 small), 1: owner, 2: CELL, 3: ANGLE");
        WakePark x = Check.told(SIX);
        int[] kinds = {0, 1, 2, 3, 0, 0};
        int[] owners = {1, 2, 1, 2, 1, 1};
        int[] cells = {0, 1, 2, 35, 4, 5};
        for (int i = 0; i < 6; i++) {
            Check.same("KIND", x.turbine(i, 0), kinds[i]);
            Check.same("owner", x.turbine(i, 1), owners[i]);
            Check.same("CELL", x.turbine(i, 2), cells[i]);
            Check.same("ANGLE", x.turbine(i, 3), 2);
        }
        for (int angle = 0; angle < 5; angle++) {
            x.turn(3, angle);
            Check.same("ANGLE", x.turbine(3, 3), angle);
            Check.same("of another one", x.turbine(2, 3), 2);
        }
    }

    private static void factsOfOthers() {
        Check.says(5, "-2: others");
        WakePark x = Check.told(SIX);
        Check.same("the last one", x.turbine(5, 8), 0);
        for (int other : OTHERS) {
            for (int what = 0; what <= 8; what++) {
                Check.same("turbine " + other, x.turbine(other, what), -2);
            }
        }
        for (int what : new int[] {-1, 9, 10, Integer.MIN_VALUE, Integer.MAX_VALUE}) {
            Check.same("what " + what, x.turbine(0, what), -2);
        }
        x = Check.told(TWO);
        Check.same("just inside", x.turbine(1, 0), 0);
        Check.same("just outside", x.turbine(2, 0), -2);
        Check.same("none at all", new WakePark().turbine(0, 0), -2);
        Twin.leaves("a refused turbine", y -> y.turbine(4, 0), -2);
        Twin.leaves("a turbine", y -> y.turbine(3, 2), 9);
    }

    private static void openBrokenWorn() {
        Check.says(5, "4: 1 open, 5: 1 broken, 6: how worn");
        WakePark x = Check.told(TWO + "wears 2;");
        int[][] due = {{1, 0, 0}, {1, 0, 1}, {1, 1, 2}, {1, 1, 2}};
        for (int step = 0; step < 4; step++) {
            for (int fact = 0; fact < 3; fact++) {
                Check.same("b at " + step, x.turbine(1, 4 + fact), due[step][fact]);
            }
            x.step();
        }
        x.shut(1);
        Check.same("shut", x.turbine(1, 4), 0);
        Check.same("broken still", x.turbine(1, 5), 1);
        x.shut(0);
        Check.same("shut", x.turbine(0, 4), 0);
        x.open(0);
        Check.same("open", x.turbine(0, 4), 1);
    }

    private static void whereItsCableGoes() {
        Check.says(5, "7: where its cable goes (6 home; NONE: it has none), 8: what that holds (0: none)");
        WakePark x = Check.told(SIX + "cable f home holds 200;cable a to f holds 1;cable d to a holds 77;");
        int[] to = {5, -1, -1, 0, -1, 6};
        int[] holds = {1, 0, 0, 77, 0, 200};
        for (int i = 0; i < 6; i++) {
            Check.same("to", x.turbine(i, 7), to[i]);
            Check.same("holds", x.turbine(i, 8), holds[i]);
        }
    }

    private static void windOfOthers() {
        Check.says(6, "WIND that reaches one; NONE: others.");
        WakePark x = Check.told(SIX);
        Check.same("the first", x.wind(0), 10);
        Check.same("the last", x.wind(5), 10);
        for (int other : OTHERS) {
            Check.same("others", x.wind(other), -1);
        }
        Check.same("just outside", Check.told(TWO).wind(2), -1);
        Check.same("none at all", new WakePark().wind(0), -1);
        Twin.leaves("a refused wind", y -> y.wind(4), -1);
        Twin.leaves("wind", y -> y.wind(0), 20);
    }

    private static void openAndWhole() {
        Check.says(6, "A WAKE of a TURBINE that is open and whole");
        WakePark x = Check.told(TWO.replace("a plain", "a old") + "wears 4;");
        Check.same("open", x.wind(1), 5);
        x.shut(0);
        Check.same("shut", x.wind(1), 10);
        Check.same("wind reaches one that is shut", x.wind(0), 10);
        x.open(0);
        x.turn(0, 1);
        x.step();
        Check.same("worn, but whole", x.wind(1), 5);
        x.step();
        Check.same("broken", x.turbine(0, 5), 1);
        Check.same("a broken one's", x.wind(1), 10);
        Check.same("wind reaches one that is broken", x.wind(0), 10);
        x.shut(0);
        Check.same("shut and broken", x.wind(1), 10);
        x = Check.told(TWO);
        x.shut(1);
        Check.same("one that is shut stands in it, too", x.wind(1), 5);
    }

    /** The wind that reaches one in this CELL, behind one at the edge that is turned so; 10 blows. */
    private static int behind(int from, int angle, int cell) {
        WakePark x = Check.told("turbine m plain of 1 at " + EDGE[from] + ";turbine o plain of 1 at " + cell
            + ";blows 10;wakes 5 3 1;from " + from + ";");
        x.turn(0, angle);
        // The other one stands still, so that no wake is its own.
        x.shut(1);
        return x.wind(1);
    }

    private static void cellsAreSixRows() {
        Check.says(6, "(CELLS are six rows of six, the first one in the north, each from the west on)");
        for (int cell = 0; cell < 36; cell++) {
            if (cell + 6 < 36) {
                Check.same("to the south of " + cell, reaches(0, 2, cell, cell + 6), 1);
                Check.same("to the north of " + (cell + 6), reaches(2, 2, cell + 6, cell), 1);
            }
            if (cell + 1 < 36) {
                boolean row = cell % 6 < 5;
                Check.same("to the east of " + cell, reaches(3, 2, cell, cell + 1), row ? 1 : 10);
                Check.same("to the west of " + (cell + 1), reaches(1, 2, cell + 1, cell), row ? 1 : 10);
            }
        }
    }

    private static void anglesAreTurned() {
        Check.says(6, "ANGLES: 2 is straight; 1, 3 are turned by one, 0, 4 by two.");
        int[] by = {2, 1, 0, 1, 2};
        for (int angle = 0; angle < 5; angle++) {
            WakePark x = Check.told(TWO + "gives 10*(angle=" + by[angle] + ");wears 99;");
            x.turn(0, angle);
            Check.same("turned by " + by[angle], x.power(0), 10 - (by[angle] == 1 ? 1 : by[angle] * 2));
            x.step();
            Check.same("worn by " + by[angle], x.turbine(0, 6), by[angle]);
        }
    }

    private static void theWayTheWindGoes() {
        Check.says(6, "goes the way the wind goes (from the north to the south, and so on), 1, 2, 3 CELLS off");
        int[] left = {5, 7, 9, 10};
        for (int from = 0; from < 4; from++) {
            for (int off = 0; off < 4; off++) {
                Check.same("from " + from + " off " + (off + 1), behind(from, 2, MIDDLE[from][off]), left[off]);
                Check.same("beside", behind(from, 2, LOW[from][off]), 10);
                Check.same("beside", behind(from, 2, HIGH[from][off]), 10);
            }
        }
        int[] next = {15, 22, 27, 20};
        for (int from = 0; from < 4; from++) {
            for (int side = 0; side < 4; side++) {
                WakePark x = Check.told("turbine m plain of 1 at 21;turbine o plain of 1 at " + next[side] + ";from " + from + ";");
                // Who stands to the north of one is behind it by a wind from the south, and in front of it by one from the north.
                Check.same("from " + from + ", on side " + side, x.wind(1), (from + 2) % 4 == side ? 5 : 10);
                Check.same("m from " + from + ", other on side " + side, x.wind(0), from == side ? 5 : 10);
            }
        }
    }

    private static void aside() {
        int[] left = {5, 7, 9, 10};
        for (int from = 0; from < 4; from++) {
            for (int off = 0; off < 4; off++) {
                for (int angle = 0; angle < 5; angle++) {
                    int by = Math.abs(angle - 2);
                    Check.says(6, by == 2 ? "of one turned by two from the first one on"
                        : "of one turned by one it lies a CELL aside from the second CELL on");
                    boolean lies = by == 2 || by == 1 && off >= 1;
                    String what = "from " + from + " off " + (off + 1) + " angle " + angle;
                    Check.same(what + ", straight", behind(from, angle, MIDDLE[from][off]), lies ? 10 : left[off]);
                    Check.same(what + ", two aside", behind(from, angle, FAR[from][off]), 10);
                    Check.says(6, "of ANGLES 0, 1 to the west or the north, of 3, 4 to the east or the south");
                    Check.same(what + ", west, north", behind(from, angle, LOW[from][off]), lies && angle < 2 ? left[off] : 10);
                    Check.same(what + ", east, south", behind(from, angle, HIGH[from][off]), lies && angle > 2 ? left[off] : 10);
                }
            }
        }
    }

    private static int reaches(int from, int angle, int cell, int other) {
        WakePark x = Check.told("turbine m plain of 1 at " + cell + ";turbine o plain of 1 at " + other + ";wakes 9 9 9;from "
            + from + ";");
        x.turn(0, angle);
        x.shut(1);
        return x.wind(1);
    }

    private static void asFarAsTheSeaGoes() {
        Check.says(6, "as far as the sea goes");
        // CELLS that follow one another by number, at the east and the west of two rows.
        for (int row = 0; row < 5; row++) {
            int east = row * 6 + 5;
            Check.same("past the east", reaches(3, 2, east, east + 1), 10);
            Check.same("past the east", reaches(3, 2, east - 1, east + 1), 10);
            Check.same("past the east", reaches(3, 2, east - 2, east + 1), 10);
            Check.same("past the west", reaches(1, 2, east + 1, east), 10);
            Check.same("past the west", reaches(1, 2, east + 2, east), 10);
            Check.same("past the west", reaches(1, 2, east + 3, east), 10);
            Check.same("aside past the east", reaches(0, 4, east, row * 6 + 12 < 36 ? row * 6 + 12 : 0), 10);
            Check.same("aside past the west", reaches(0, 0, row * 6, east), 10);
            Check.same("aside past the west", reaches(2, 0, row * 6 + 6, row > 0 ? row * 6 - 1 : 35), 10);
        }
        for (int column = 0; column < 6; column++) {
            Check.same("past the south", reaches(0, 2, 30 + column, column), 10);
            Check.same("past the north", reaches(2, 2, column, 30 + column), 10);
            Check.same("aside past the north", reaches(3, 0, column, 30 + (column + 1) % 6), 10);
            Check.same("aside past the south", reaches(1, 4, 30 + column, (column + 5) % 6), 10);
        }
        Check.same("to the last row", reaches(0, 2, 15, 33), 1);
        Check.same("to the first row", reaches(2, 2, 20, 2), 1);
        Check.same("to the last column", reaches(3, 2, 8, 11), 1);
        Check.same("to the first column", reaches(1, 2, 9, 6), 1);
        Check.same("aside to the last column", reaches(0, 4, 4, 11), 1);
        Check.same("aside to the first column", reaches(0, 0, 1, 6), 1);
    }

    private static void aSmallOne() {
        Check.says(6, "It takes so many tenths there as wakes tells, of a small one's a tenth less (0 at least)");
        for (int tenths = 0; tenths <= 9; tenths++) {
            for (String kind : new String[] {"plain", "tall", "old", "small"}) {
                String column = "turbine a " + kind + " of 1 at 0;turbine b plain of 1 at 6;turbine c plain of 1 at 12;"
                    + "turbine d plain of 1 at 18;";
                boolean small = kind.equals("small");
                int due = small ? Math.max(tenths - 1, 0) : tenths;
                for (int off = 1; off <= 3; off++) {
                    String wakes = off == 1 ? tenths + " 0 0" : off == 2 ? "0 " + tenths + " 0" : "0 0 " + tenths;
                    WakePark x = Check.told(column + "wakes " + wakes + ";");
                    x.shut(1);
                    x.shut(2);
                    Check.same(kind + " takes " + tenths, x.wind(off), 10 - due);
                }
            }
        }
    }

    private static void taken() {
        Check.says(6, "TAKEN of a TURBINE: all these together, 9 at most");
        String three = TWO + "turbine c plain of 1 at 12;";
        int[][] wakes = {{0, 0, 0}, {4, 3, 3}, {5, 3, 2}, {6, 3, 1}, {6, 4, 1}, {9, 9, 1}};
        for (int[] row : wakes) {
            WakePark x = Check.told(three + "wakes " + row[0] + " " + row[1] + " 0;");
            Check.same(row[0] + " and " + row[1], x.wind(2), row[2] == 0 ? 10 : row[2]);
        }
        WakePark x = Check.told(three + "turbine d plain of 1 at 18;turbine e plain of 1 at 24;wakes 9 9 9;blows 30;");
        Check.same("of 9, 9, 9", x.wind(3), 3);
        Check.same("of 9, 9, 9", x.wind(4), 3);
        x = Check.told("turbine a plain of 1 at 0;turbine b plain of 1 at 1;turbine c plain of 1 at 2;turbine m plain of 1 at 7;");
        x.turn(0, 4);
        Check.same("of two that meet", x.wind(3), 1);
        x.turn(2, 0);
        Check.same("of three that meet", x.wind(3), 1);
        x.turn(1, 0);
        x.shut(0);
        Check.same("of one", x.wind(3), 5);
    }

    private static void aTallOne() {
        Check.says(6, "of a tall one a tenth less then (0 at least)");
        String three = TWO + "turbine c tall of 1 at 12;";
        // What the two in front take of it together, and what reaches it of 10.
        int[][] wakes = {{0, 0, 10}, {0, 1, 10}, {1, 1, 9}, {5, 3, 3}, {6, 3, 2}, {6, 4, 2}, {9, 9, 2}};
        for (int[] row : wakes) {
            WakePark x = Check.told(three + "wakes " + row[0] + " " + row[1] + " 0;");
            Check.same(row[0] + " and " + row[1], x.wind(2), row[2]);
        }
        for (String kind : new String[] {"plain", "old", "small"}) {
            WakePark x = Check.told(three.replace("tall", kind) + "wakes 0 1 0;");
            Check.same(kind, x.wind(2), 9);
        }
    }

    private static void windIsCut() {
        Check.says(6, "WIND: what blows, less so many tenths, cut.");
        for (int taken = 0; taken <= 9; taken++) {
            for (int blows = 0; blows <= 30; blows++) {
                WakePark x = Check.told(TWO + "wakes " + taken + " 0 0;blows " + blows + ";");
                Check.same("what blows", x.wind(0), blows);
                int got = x.wind(1);
                int tenths = blows * (10 - taken);
                Check.is("cut " + blows + " less " + taken + ": " + got, 10 * got <= tenths && tenths < 10 * (got + 1));
            }
        }
        WakePark x = Check.told(TWO + "blows 20 0 7;from 0 0 2;");
        int[][] due = {{20, 10}, {0, 0}, {3, 7}, {20, 10}};
        for (int[] row : due) {
            Check.same("of this step", x.wind(0), row[0]);
            Check.same("of this step", x.wind(1), row[1]);
            x.step();
        }
    }

    private static void powerOfOthers() {
        Check.says(7, "POWER; NONE: others.");
        WakePark x = Check.told(SIX);
        Check.same("the first", x.power(0), 10);
        Check.same("the last", x.power(5), 10);
        for (int other : OTHERS) {
            Check.same("others", x.power(other), -1);
        }
        Check.same("just outside", Check.told(TWO).power(2), -1);
        Check.same("none at all", new WakePark().power(0), -1);
        Twin.leaves("a refused power", y -> y.power(4), -1);
        Twin.leaves("power", y -> y.power(1), 0);
    }

    private static void powerIsBounded() {
        Check.says(7, "POWER: the E of gives (0 to 99)");
        String[] laws = {"0-9999*9999", "0-1", "0", "1", "98", "99", "100", "9999", "9999*9999"};
        int[] due = {0, 0, 0, 1, 98, 99, 99, 99, 99};
        for (int i = 0; i < laws.length; i++) {
            Check.same(laws[i], Check.told(TWO + "gives " + laws[i] + ";").power(0), due[i]);
        }
        Check.same("of the WIND that reaches one", Check.told(TWO + "gives 2*wind;").power(1), 10);
    }

    private static void powerOfOneTurned() {
        Check.says(7, "of one turned by one nine tenths, by two six tenths, cut");
        for (int full = 0; full <= 99; full++) {
            WakePark x = Check.told(TWO + "gives " + full + ";");
            int[] tenths = {6, 9, 10, 9, 6};
            for (int angle = 0; angle < 5; angle++) {
                x.turn(0, angle);
                int got = x.power(0);
                int all = full * tenths[angle];
                Check.is(full + " by " + angle + ": " + got, 10 * got <= all && all < 10 * (got + 1));
            }
        }
        WakePark x = Check.told(TWO + "gives 500;");
        int[] due = {59, 89, 99, 89, 59};
        for (int angle = 0; angle < 5; angle++) {
            x.turn(0, angle);
            Check.same("of 99 at most, by " + angle, x.power(0), due[angle]);
        }
        x = Check.told(TWO + "gives wind-30;");
        x.turn(0, 0);
        Check.same("of 0 at least", x.power(0), 0);
    }

    private static void powerOfOneShutOrBroken() {
        Check.says(7, "of one that is shut or broken 0");
        WakePark x = Check.told(TWO + "gives 50;wears 1;slack 1;");
        x.shut(1);
        Check.same("shut", x.power(1), 0);
        x.open(1);
        Check.same("open", x.power(1), 50);
        x.step();
        Check.same("broken", x.power(1), 0);
        x.shut(1);
        Check.same("both", x.power(1), 0);
        x.mend(1);
        Check.same("shut", x.power(1), 0);
        x.open(1);
        Check.same("open and whole", x.power(1), 50);
    }

    private static void carriedOfOthers() {
        Check.says(8, "CARRIED; NONE: others.");
        WakePark x = Check.told(SIX + "cable f home holds 3;cable a home holds 4;");
        Check.same("the first", x.carried(0), 4);
        Check.same("the last", x.carried(5), 3);
        Check.same("without a cable", x.carried(1), 0);
        for (int other : OTHERS) {
            Check.same("others", x.carried(other), -1);
        }
        Check.same("just outside", Check.told(TWO).carried(2), -1);
        Check.same("none at all", new WakePark().carried(0), -1);
        Twin.leaves("a refused carried", y -> y.carried(4), -1);
        Twin.leaves("carried", y -> y.carried(3), 0);
    }

    private static void carried() {
        Check.says(8, "CARRIED by a TURBINE's cable: its POWER and what comes to it, but no more than it holds");
        for (int holds : new int[] {1, 9, 10, 11, 200}) {
            WakePark x = Check.told(TWO + "cable a home holds " + holds + ";");
            Check.same("10 of " + holds, x.carried(0), Math.min(10, holds));
        }
        for (int holds : new int[] {1, 14, 15, 16, 200}) {
            WakePark x = Check.told(TWO + "cable a home holds " + holds + ";cable b to a holds 5;");
            Check.same("10 and 5 of " + holds, x.carried(0), Math.min(15, holds));
            Check.same("5", x.carried(1), 5);
        }
        for (int holds : new int[] {4, 5, 6}) {
            WakePark x = Check.told(TWO + "cable a home holds 200;cable b to a holds " + holds + ";");
            Check.same("5 of " + holds, x.carried(1), Math.min(5, holds));
            Check.same("no more comes to it", x.carried(0), 10 + Math.min(5, holds));
        }
        WakePark x = Check.told("turbine a plain of 1 at 0;turbine b plain of 1 at 1;turbine c plain of 1 at 2;"
            + "turbine d plain of 2 at 3;turbine e plain of 2 at 4;turbine f plain of 2 at 5;blows 10;"
            + "cable d home holds 35;cable b to d holds 25;cable a to b holds 7;cable c to b holds 200;cable f home holds 6;");
        int[] due = {7, 25, 10, 35, 0, 6};
        for (int i = 0; i < 6; i++) {
            Check.same("carried " + i, x.carried(i), due[i]);
        }
        x.shut(1);
        Check.same("of one that is shut: what comes to it", x.carried(1), 17);
        x.shut(0);
        x.shut(2);
        Check.same("nothing", x.carried(1), 0);
    }

    private static void home() {
        Check.says(9, "HOME: what cables home carry; what has no cable is lost.");
        WakePark x = Check.told("turbine a plain of 1 at 0;turbine b plain of 1 at 1;turbine c plain of 1 at 2;"
            + "turbine d plain of 2 at 3;turbine e plain of 2 at 4;turbine f plain of 2 at 5;blows 10;"
            + "cable d home holds 35;cable b to d holds 25;cable a to b holds 7;cable c to b holds 200;cable f home holds 6;");
        Check.same("d and f", x.home(), 41);
        x.shut(4);
        Check.same("e has no cable", x.home(), 41);
        x.shut(3);
        Check.same("what comes to d", x.home(), 31);
        x.shut(1);
        Check.same("what comes to b", x.home(), 23);
        Check.same("no cable", Check.told(TWO).home(), 0);
        Check.same("no turbine", new WakePark().home(), 0);
        Check.same("no wind", Check.told(TWO + "cable a home holds 9;blows 0;").home(), 0);
        Check.same("six full ones", Check.told(SIX + "gives 99;cable a home holds 99;cable b home holds 99;cable c home holds 99;"
            + "cable d home holds 99;cable e home holds 99;cable f home holds 99;").home(), 594);
        Check.same("six by one", Check.told(SIX + "gives 99;cable a home holds 200;cable b to a holds 200;cable c to b holds 200;"
            + "cable d to c holds 200;cable e to d holds 200;cable f to e holds 200;").home(), 200);
        Twin.leaves("home: of a 12, of c 14", y -> y.home(), 26);
    }
}
