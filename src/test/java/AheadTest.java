/** Promises 17 to 25: who takes of whom, what comes, the best ANGLES, who should be shut. */
public final class AheadTest {
    private static final String TWO = "turbine a plain of 1 at 0;turbine b old of 2 at 6;cable a home holds 50;"
        + "cable b home holds 50;price 13 8;blows 10;wears 5;slack 2;";
    private static final int[] OTHERS = {-1, 2, 6, Integer.MIN_VALUE, Integer.MAX_VALUE};

    public static void main(String[] args) {
        taking();
        comingHome();
        breaking();
        losing();
        turnedBest();
        turnedBestOfSix();
        turnedAlone();
        changesAreSeen();
        shutBest();
        turnedStraight();
        Check.end();
    }

    private static void taking() {
        WakePark x = Check.told("turbine a plain of 1 at 0;turbine b tall of 2 at 6;turbine c small of 2 at 12;"
            + "turbine d plain of 1 at 18;wakes 9 4 1;");
        int[][] due = {{-1, 9, 4, 1}, {0, -1, 9, 4}, {0, 0, -1, 8}, {0, 0, 0, -1}};
        for (int i = 0; i < 4; i++) {
            for (int j = 0; j < 4; j++) {
                Check.same("takes " + i + " " + j, x.takes(i, j), due[i][j]);
            }
        }
        x.shut(0);
        Check.same("shut", x.takes(0, 1), 0);
        Check.same("of one that is shut", x.takes(1, 0), 0);
        x.shut(3);
        Check.same("of one that is shut", x.takes(2, 3), 8);
        for (int other : new int[] {-1, 4, Integer.MIN_VALUE, Integer.MAX_VALUE}) {
            Check.same("others", x.takes(other, 0), -1);
            Check.same("others", x.takes(0, other), -1);
        }
        WakePark y = Check.told("turbine a plain of 1 at 0;turbine b plain of 2 at 18;wakes 9 4 0;");
        Check.same("nothing", y.takes(0, 1), 0);
        y = Check.told("turbine a small of 1 at 0;turbine b plain of 2 at 18;wakes 9 4 0;");
        Check.same("not below 0", y.takes(0, 1), 0);
    }

    private static void comingHome() {
        WakePark x = Check.told(TWO);
        int[] due = {15, 15, 15, 10, 10};
        for (int i = 0; i < due.length; i++) {
            Check.same("later " + i, x.later(i), due[i]);
        }
        Check.same("later 60", x.later(60), 10);
        Check.same("later", x.later(-1), -1);
        Check.same("later", x.later(61), -1);
        Check.same("later", x.later(Integer.MIN_VALUE), -1);
        Check.same("later", x.later(Integer.MAX_VALUE), -1);
        Check.same("total 1", x.total(1), 45);
        Check.same("total 3", x.total(3), 60);
        Check.same("total 4", x.total(4), 40);
        Check.same("total 60", x.total(60), 60 - 20 * 29 + 30 * 28);
        for (int other : new int[] {0, -1, 61, Integer.MIN_VALUE, Integer.MAX_VALUE}) {
            Check.same("total", x.total(other), -1000000);
        }
        Check.same("nothing was done", x.count(1), 0);
        Check.same("nothing was sold", x.count(6), 0);
        x.step();
        Check.same("total from now on", x.total(2), 15);
        Check.same("later from now on", x.later(2), 10);
    }

    private static void breaking() {
        WakePark x = Check.told(TWO);
        for (int other : OTHERS) {
            Check.same("others", x.breaks(other), -1);
        }
        Check.same("never", x.breaks(0), -1);
        Check.same("by 3", x.breaks(1), 3);
        x.step();
        Check.same("by 2", x.breaks(1), 2);
        x.shut(1);
        Check.same("shut", x.breaks(1), -1);
        x.open(1);
        x.step();
        x.step();
        Check.same("broken", x.breaks(1), -1);
        String half = "turbine a plain of 1 at 0;turbine b plain of 2 at 6;from 1 0;";
        Check.same("by 100", Check.told(half + "wears 50;").breaks(1), 100);
        Check.same("not by 100", Check.told(half + "wears 51;").breaks(1), -1);
        x = Check.told(half + "wears 51;");
        x.step();
        Check.same("by 101 less 1", x.breaks(1), -1);
        x.step();
        Check.same("by 100", x.breaks(1), 100);
    }

    private static void losing() {
        WakePark x = Check.told("turbine a plain of 1 at 0;turbine b plain of 1 at 1;turbine c plain of 1 at 2;"
            + "cable a home holds 15;cable b to a holds 7;");
        Check.same("lost", x.lost(), 15);
        x.shut(2);
        Check.same("lost", x.lost(), 5);
        x.shut(1);
        Check.same("lost", x.lost(), 0);
        Check.same("lost", new WakePark().lost(), 0);
    }

    private static void row(WakePark x, String what, int sold, int... angles) {
        Check.same(what + " sold", x.best(-1), sold);
        for (int i = 0; i < angles.length; i++) {
            Check.same(what + " angle " + i, x.best(i), angles[i]);
        }
    }

    private static void turnedBest() {
        WakePark x = Check.told(TWO);
        row(x, "price 3", 48, 0, 2);
        x.step();
        // The least comes home by 6 and 6, 9 and 3, which are equal.
        row(x, "price -2", -24, 0, 0);
        for (int other : new int[] {-2, 2, 6, Integer.MIN_VALUE, Integer.MAX_VALUE}) {
            Check.same("others", x.best(other), -1000000);
        }
        row(Check.told("turbine a plain of 1 at 0;cable a home holds 9;"), "price 0", 0, 0);
        row(Check.told("turbine a plain of 1 at 0;price 20;"), "no cable", 0, 0);
        row(Check.told("turbine a plain of 1 at 0;cable a home holds 9;price 20;"), "full by 1", 90, 1);
        row(Check.told("turbine a plain of 1 at 0;cable a home holds 6;price 20;"), "full by 0", 60, 0);
        row(Check.told("turbine a plain of 1 at 0;cable a home holds 10;price 20;"), "full by 2", 100, 2);
        row(Check.told("turbine a plain of 1 at 0;cable a home holds 99;price 20;gives 10*(angle=1);"), "law", 90, 1);
        // Turned to the west, the wake leaves the sea; turned to the east, it falls on c.
        String three = "turbine a plain of 1 at 0;turbine b plain of 1 at 6;turbine c plain of 1 at 7;"
            + "cable a home holds 6;cable b home holds 99;cable c home holds 99;price 11;";
        x = Check.told(three);
        row(x, "west", 26, 0, 2, 2);
        x.turn(0, 4);
        x.turn(1, 1);
        row(x, "as it is now matters not", 26, 0, 2, 2);
        x.shut(1);
        row(x, "b is shut", 16, 0, 0, 2);
        x = Check.told("turbine a plain of 1 at 1;turbine b plain of 1 at 7;turbine c plain of 1 at 6;"
            + "cable a home holds 6;cable b home holds 99;cable c home holds 99;price 11;");
        row(x, "east", 26, 4, 2, 2);
    }

    private static void turnedBestOfSix() {
        // A column: whoever is turned by two leaves those behind alone.
        WakePark x = Check.told("turbine a plain of 1 at 2;turbine b plain of 1 at 8;turbine c plain of 1 at 14;"
            + "turbine d plain of 1 at 20;turbine e plain of 1 at 26;turbine f plain of 1 at 32;blows 10;wakes 9 9 9;price 11;"
            + "cable a home holds 99;cable b home holds 99;cable c home holds 99;cable d home holds 99;"
            + "cable e home holds 99;cable f home holds 99;");
        row(x, "six", 40, 0, 0, 0, 0, 0, 2);
        Check.same("alone", x.alone(1, -1), 40);
        Check.same("of the other owner", x.alone(2, -1), 0);
        Check.same("as it is", x.alone(2, 3), 2);
        Check.same("all was left", x.turbine(0, 3), 2);
    }

    private static void turnedAlone() {
        WakePark x = Check.told(TWO);
        Check.same("a", x.alone(1, -1), 10);
        Check.same("a", x.alone(1, 0), 2);
        Check.same("b as it is", x.alone(1, 1), 2);
        Check.same("b", x.alone(2, -1), 5);
        Check.same("b", x.alone(2, 1), 2);
        Check.same("a as it is", x.alone(2, 0), 2);
        x.turn(0, 4);
        x.turn(1, 3);
        Check.same("b", x.alone(2, -1), 10);
        Check.same("a as it is", x.alone(2, 0), 4);
        Check.same("b as it is", x.alone(1, 1), 3);
        x.shut(1);
        Check.same("shut", x.alone(2, -1), 0);
        Check.same("the first row", x.alone(2, 1), 0);
        for (int other : new int[] {-1, 0, 3, Integer.MIN_VALUE, Integer.MAX_VALUE}) {
            Check.same("others", x.alone(other, -1), -2);
        }
        for (int other : new int[] {-2, 2, 6, Integer.MIN_VALUE, Integer.MAX_VALUE}) {
            Check.same("others", x.alone(1, other), -2);
        }
        WakePark y = Check.told("turbine a plain of 1 at 0;turbine b plain of 1 at 6;");
        Check.same("without cables, by POWER", y.alone(1, -1), 16);
        Check.same("a is turned", y.alone(1, 0), 0);
        Check.same("b is not", y.alone(1, 1), 2);
        y.step();
        Check.same("the price matters not", y.alone(1, -1), 16);
        y = Check.told("turbine a plain of 2 at 0;turbine b plain of 2 at 6;price 0;blows 0;");
        Check.same("no wind", y.alone(2, -1), 0);
        Check.same("the first row", y.alone(2, 1), 0);
    }

    private static void changesAreSeen() {
        WakePark x = Check.told(TWO);
        Check.same("best", x.best(-1), 48);
        Check.same("alone", x.alone(2, -1), 5);
        x.shut(0);
        Check.same("shut", x.best(-1), 30);
        Check.same("shut", x.alone(2, -1), 10);
        x.open(0);
        Check.same("open", x.best(-1), 48);
        x.mark(0, false);
        x.turn(0, 0);
        Check.same("turned", x.alone(2, -1), 10);
        x.undo();
        Check.same("undone", x.alone(2, -1), 5);
        x.step();
        Check.same("step", x.best(-1), -24);
        x.mark(0, true);
        Check.same("back", x.best(-1), 48);
        x.step();
        x.step();
        x.step();
        x.step();
        Check.same("broken", x.best(-1), 30);
        x.mend(1);
        Check.same("mended", x.best(-1), 48);
        Check.readPark(x, "turbine a plain of 2 at 0;price 20;cable a home holds 4;");
        Check.same("another park", x.best(-1), 40);
        Check.same("another park", x.alone(2, -1), 10);
    }

    private static void shutBest() {
        WakePark x = Check.told(TWO);
        Check.same("none", x.idle(), 0);
        x.step();
        Check.same("all below nothing", x.idle(), 3);
        x.step();
        x.step();
        Check.same("b is broken", x.idle(), 1);
        x.step();
        Check.same("b is broken", x.idle(), 0);
        Check.same("price 0", Check.told("turbine a plain of 1 at 0;cable a home holds 9;").idle(), 0);
        String small = "turbine a plain of 1 at 0;turbine b plain of 1 at 6;cable a home holds 1;cable b home holds 50;wakes 9 0 0;";
        WakePark y = Check.told(small + "price 11;");
        Check.same("a takes more than it brings", y.idle(), 1);
        y.shut(1);
        Check.same("as it is now matters not", y.idle(), 1);
        y.shut(0);
        Check.same("as it is now matters not", y.idle(), 1);
        y = Check.told(small.replace("holds 50", "holds 1") + "price 11;");
        Check.same("equal ones", y.idle(), 0);
        y = Check.told("turbine a plain of 1 at 0;turbine b plain of 1 at 6;price 11;cable b home holds 5;");
        Check.same("equal ones", y.idle(), 0);
        y = Check.told("turbine a plain of 1 at 0;turbine b plain of 1 at 6;price 11;cable b home holds 6;");
        Check.same("a", y.idle(), 1);
        y = Check.told("turbine a plain of 1 at 0;turbine b plain of 1 at 6;price 9;cable b home holds 6;");
        Check.same("b", y.idle(), 2);
        y.turn(0, 4);
        Check.same("by the angles as they are", y.idle(), 2);
        Check.same("an empty sea", new WakePark().idle(), 0);
    }

    private static void turnedStraight() {
        WakePark x = Check.told(TWO);
        Check.same("straight", x.straight(), 0);
        x.turn(0, 0);
        Check.same("16 becomes 15", x.straight(), -3);
        x.turn(1, 1);
        Check.same("15 becomes 15", x.straight(), 0);
        x.turn(1, 0);
        Check.same("12 becomes 15", x.straight(), 9);
        x.step();
        Check.same("by a price of -2", x.straight(), -6);
        Check.same("nothing was turned", x.turbine(1, 3), 0);
    }
}
