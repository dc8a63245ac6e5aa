/** Promises 5 to 9: facts of a turbine, WAKES, WIND, POWER, cables, HOME. */
public final class SeaTest {
    public static void main(String[] args) {
        othersAreNone();
        wakesGoWithTheWind();
        wakesLieAside();
        wakesEndWithTheSea();
        kindsTakeAndAreTaken();
        whoStandsStillTakesNothing();
        windIsCut();
        lawsAreCounted();
        powerIsBounded();
        lawFacts();
        cablesCarry();
        Check.end();
    }

    private static void othersAreNone() {
        WakePark x = Check.told("turbine a plain of 1 at 0;turbine b old of 2 at 1;");
        for (int other : new int[] {-1, 2, 6, Integer.MIN_VALUE, Integer.MAX_VALUE}) {
            Check.same("wind", x.wind(other), -1);
            Check.same("power", x.power(other), -1);
            Check.same("carried", x.carried(other), -1);
            Check.same("turbine", x.turbine(other, 0), -2);
        }
        for (int other : new int[] {-1, 9, Integer.MIN_VALUE, Integer.MAX_VALUE}) {
            Check.same("what", x.turbine(0, other), -2);
        }
        Check.same("no cable", x.carried(0), 0);
        Check.same("no cable home", x.home(), 0);
    }

    /** The middle turbine stands in row 3, column 3; one more stands somewhere round it. */
    private static WakePark pair(int from, int cell, int angle) {
        WakePark x = Check.told("turbine m plain of 1 at 21;turbine o plain of 1 at " + cell + ";blows 10;wakes 5 3 1;from "
            + from + ";");
        x.turn(0, angle);
        // The other one's own wake must not be counted: it stands still.
        x.shut(1);
        return x;
    }

    private static void wakesGoWithTheWind() {
        int[][] behind = {{27, 33, -1}, {20, 19, 18}, {15, 9, 3}, {22, 23, -1}};
        int[] left = {5, 7, 9};
        for (int from = 0; from < 4; from++) {
            for (int off = 0; off < 3; off++) {
                if (behind[from][off] >= 0) {
                    Check.same("behind " + from + " " + off, pair(from, behind[from][off], 2).wind(1), left[off]);
                }
                for (int side = 0; side < 4; side++) {
                    if (side != from && behind[side][off] >= 0) {
                        Check.same("not behind", pair(from, behind[side][off], 2).wind(1), 10);
                    }
                }
            }
        }
    }

    private static void wakesLieAside() {
        // For each side of the wind: what stands 1, 2, 3 CELLS behind, to the west or the north, then east or south.
        int[][] low = {{26, 32, -1}, {14, 13, 12}, {14, 8, 2}, {16, 17, -1}};
        int[][] high = {{28, 34, -1}, {26, 25, 24}, {16, 10, 4}, {28, 29, -1}};
        int[][] middle = {{27, 33, -1}, {20, 19, 18}, {15, 9, 3}, {22, 23, -1}};
        int[][] left = {{5, 7, 9}, {10, 7, 9}, {10, 10, 10}};
        for (int from = 0; from < 4; from++) {
            for (int off = 0; off < 3; off++) {
                if (low[from][off] < 0) {
                    continue;
                }
                for (int angle = 0; angle < 5; angle++) {
                    int ahead = left[0][off];
                    boolean one = angle == 1 || angle == 3;
                    boolean aside = angle == 0 || angle == 4 || one && off > 0;
                    String what = "from " + from + " off " + off + " angle " + angle;
                    Check.same(what + " low", pair(from, low[from][off], angle).wind(1),
                        aside && angle < 2 ? ahead : 10);
                    Check.same(what + " high", pair(from, high[from][off], angle).wind(1),
                        aside && angle > 2 ? ahead : 10);
                    Check.same(what + " middle", pair(from, middle[from][off], angle).wind(1), aside ? 10 : ahead);
                }
            }
        }
    }

    private static void wakesEndWithTheSea() {
        // Row 1's last column and row 2's first one are neighbours by number, not at sea.
        WakePark x = Check.told("turbine a plain of 1 at 11;turbine b plain of 1 at 12;from 3;");
        Check.same("past the east", x.wind(1), 10);
        x = Check.told("turbine a plain of 1 at 12;turbine b plain of 1 at 11;from 1;");
        Check.same("past the west", x.wind(1), 10);
        x = Check.told("turbine a plain of 1 at 6;turbine b plain of 1 at 11;turbine c plain of 1 at 17;from 0;");
        x.turn(0, 0);
        Check.same("aside past the west", x.wind(1), 10);
        x.turn(1, 4);
        x.turn(2, 4);
        Check.same("aside past the east", x.wind(0), 10);
        x = Check.told("turbine a plain of 1 at 0;turbine b plain of 1 at 24;from 0;wakes 9 9 9;");
        Check.same("four off", x.wind(1), 10);
    }

    private static void kindsTakeAndAreTaken() {
        for (String kind : new String[] {"plain", "tall", "old", "small"}) {
            WakePark x = Check.told("turbine a " + kind + " of 1 at 0;turbine b plain of 1 at 6;turbine c plain of 1 at 12;"
                + "turbine d plain of 1 at 18;wakes 4 1 0;");
            x.shut(1);
            x.shut(2);
            boolean small = kind.equals("small");
            Check.same("takes 4", x.wind(1), small ? 7 : 6);
            Check.same("takes 1", x.wind(2), small ? 10 : 9);
            Check.same("takes 0", x.wind(3), 10);
            x = Check.told("turbine a plain of 1 at 0;turbine b " + kind + " of 1 at 6;wakes 4 1 0;");
            Check.same("is taken", x.wind(1), kind.equals("tall") ? 7 : 6);
            x = Check.told("turbine a plain of 1 at 0;turbine b " + kind + " of 1 at 6;wakes 0 1 0;");
            Check.same("nothing is taken", x.wind(1), 10);
        }
        String three = "turbine a plain of 1 at 0;turbine b plain of 1 at 6;turbine c plain of 1 at 12;";
        WakePark x = Check.told(three + "turbine d plain of 1 at 18;blows 20;wakes 5 3 1;");
        Check.same("five, three, one together", x.wind(3), 2);
        Check.same("five, three", x.wind(2), 4);
        x = Check.told(three + "turbine d plain of 1 at 18;blows 20;wakes 9 9 9;");
        Check.same("nine at most", x.wind(3), 2);
        x = Check.told(three + "turbine d tall of 1 at 18;blows 20;wakes 9 9 9;");
        Check.same("a tenth less then", x.wind(3), 4);
    }

    private static void whoStandsStillTakesNothing() {
        WakePark x = Check.told("turbine a old of 1 at 0;turbine b plain of 1 at 6;wears 4;");
        Check.same("open", x.wind(1), 5);
        x.shut(0);
        Check.same("shut", x.wind(1), 10);
        Check.same("wind reaches one that is shut", x.wind(0), 10);
        Check.same("power of one that is shut", x.power(0), 0);
        x.open(0);
        x.turn(0, 1);
        x.step();
        Check.same("worn, whole", x.power(0), 9);
        x.step();
        Check.same("broken", x.turbine(0, 5), 1);
        Check.same("open, though", x.turbine(0, 4), 1);
        Check.same("wind reaches one that is broken", x.wind(0), 10);
        Check.same("power of one that is broken", x.power(0), 0);
        Check.same("a broken one takes nothing", x.wind(1), 10);
        Check.same("the other one is worn by the first wake", x.turbine(1, 6), 2);
    }

    private static void windIsCut() {
        String two = "turbine a plain of 1 at 0;turbine b plain of 1 at 6;";
        for (int taken = 0; taken <= 9; taken++) {
            for (int blows : new int[] {0, 1, 7, 19, 30}) {
                WakePark x = Check.told(two + "wakes " + taken + " 0 0;blows " + blows + ";");
                Check.same("cut " + blows + " less " + taken, x.wind(1), (long) Math.floor(blows * (10 - taken) / 10.0 + 1e-9));
                Check.same("without gives it is the wind", x.power(1), x.wind(1));
            }
        }
    }

    private static int worth(String law) {
        return Check.told("turbine a plain of 1 at 0;blows 10;gives " + law + ";").power(0);
    }

    private static void lawsAreCounted() {
        Check.same("number", worth("42"), 42);
        Check.same("product first", worth("1+2*3"), 7);
        Check.same("from the left", worth("20-5-3"), 12);
        Check.same("from the left", worth("20-5+3"), 18);
        Check.same("brackets", worth("20-(5+3)"), 12);
        Check.same("product", worth("2*3*4"), 24);
        Check.same("less", worth("wind<11"), 1);
        Check.same("not less", worth("wind<10"), 0);
        Check.same("same", worth("wind=10"), 1);
        Check.same("not the same", worth("wind=11"), 0);
        Check.same("sum first", worth("1+1<1+2"), 1);
        Check.same("less of brackets", worth("(1<2)+(2<3)"), 2);
        Check.same("and", worth("5 and 3"), 1);
        Check.same("and 0", worth("5 and 0"), 0);
        Check.same("0 and", worth("0 and 5"), 0);
        Check.same("or", worth("0 or 3"), 1);
        Check.same("or 0", worth("0 or 0"), 0);
        Check.same("one is so alone", worth("(0-3) and 1"), 1);
        Check.same("and, or from the left", worth("1 or 1 and 0"), 0);
        Check.same("and, or from the left", worth("0 and 0 or 1"), 1);
        Check.same("and of tests", worth("1<2 and 2<3"), 1);
        Check.same("and of tests", worth("1<2 and 3<2"), 0);
        Check.same("not", worth("not 0"), 1);
        Check.same("not", worth("not 7"), 0);
        Check.same("not not", worth("not not 7"), 1);
        Check.same("not holds a part alone", worth("not 0+5"), 6);
        Check.same("not holds a part alone", worth("not 0*5"), 5);
        Check.same("not holds a part alone", worth("3*not 1+4"), 4);
        Check.same("not of brackets", worth("not(0+5)"), 0);
        Check.same("wraps below 0", worth("9999*9999*30<0"), 1);
        // 9999 * 9999 * 50 is 4999000050, that is 704032754 as an int.
        Check.same("wraps", worth("9999*9999*50-7040*9999*10-10*9999-3164+5"), 5);
        Check.same("long", worth("1" + "+1".repeat(98)), 99);
        Check.same("long", worth("1" + "*1".repeat(400)), 1);
    }

    private static void powerIsBounded() {
        Check.same("99", worth("99"), 99);
        Check.same("100", worth("100"), 99);
        Check.same("9999", worth("9999*9999"), 99);
        Check.same("below 0", worth("wind-11"), 0);
        Check.same("far below 0", worth("0-9999"), 0);
        WakePark x = Check.told("turbine a plain of 1 at 0;gives 500;");
        int[] due = {59, 89, 99, 89, 59};
        for (int angle = 0; angle < 5; angle++) {
            x.turn(0, angle);
            Check.same("bounded, then turned " + angle, x.power(0), due[angle]);
        }
        x = Check.told("turbine a plain of 1 at 0;blows 11;");
        int[] cut = {6, 9, 11, 9, 6};
        for (int angle = 0; angle < 5; angle++) {
            x.turn(0, angle);
            Check.same("cut " + angle, x.power(0), cut[angle]);
        }
        Check.same("of all", x.count(5), 6);
    }

    private static void lawFacts() {
        WakePark x = Check.told("turbine a plain of 1 at 0;turbine b old of 1 at 6;blows 8;wakes 5 0 0;"
            + "gives angle*1000 + worn*10 + night - 1000*(angle=1) - 2000*(angle=2);");
        for (int step = 0; step < 30; step++) {
            boolean night = step % 12 >= 6;
            Check.same("night " + step, x.power(0), night ? 1 : 0);
            x.mend(1);
            x.step();
        }
        x = Check.told("turbine a plain of 1 at 0;gives 0;");
        for (int step = 0; step < 12; step++) {
            Check.same("0 is 0 by night too", x.power(0), 0);
            x.step();
        }
        x = Check.told("turbine a plain of 1 at 0;turbine b old of 1 at 6;gives wind+10*angle+30*worn;wears 99;");
        Check.same("a", x.power(0), 10);
        Check.same("b", x.power(1), 5);
        x.step();
        Check.same("b is worn by 2", x.power(1), 65);
        x.turn(0, 4);
        Check.same("angle is without the side", x.power(0), 18);
        x.turn(0, 0);
        Check.same("angle is without the side", x.power(0), 18);
        x.turn(0, 3);
        Check.same("angle", x.power(0), 18);
    }

    private static void cablesCarry() {
        WakePark x = Check.told("turbine a plain of 1 at 0;turbine b plain of 1 at 1;turbine c plain of 1 at 2;"
            + "turbine d plain of 2 at 3;turbine e plain of 2 at 4;turbine f plain of 2 at 5;blows 10;"
            + "cable d home holds 35;cable b to d holds 25;cable a to b holds 7;cable c to b holds 200;cable f home holds 6;");
        int[] due = {7, 25, 10, 35, 0, 6};
        for (int i = 0; i < 6; i++) {
            Check.same("carried " + i, x.carried(i), due[i]);
        }
        Check.same("home", x.home(), 41);
        Check.same("all", x.count(5), 60);
        x.shut(3);
        Check.same("a shut one's cable carries on", x.carried(3), 25);
        Check.same("home", x.home(), 31);
        x.shut(1);
        Check.same("what comes to it alone", x.carried(1), 17);
        Check.same("home", x.home(), 23);
        Check.same("home of a new object", new WakePark().home(), 0);
    }
}
