/** Promises 26 to 32: cables that are full, dear, that fail, and who stands in whose wake. */
public final class CableTest {
    private static final String TREE = "turbine a plain of 1 at 0;turbine b plain of 1 at 1;turbine c plain of 1 at 2;"
        + "turbine d plain of 2 at 3;turbine e plain of 2 at 4;turbine f plain of 2 at 5;blows 10 0;"
        + "cable d home holds 35;cable b to d holds 25;cable a to b holds 7;cable c to b holds 200;cable f home holds 6;";
    private static final String COLUMN = "turbine a plain of 1 at 0;turbine b plain of 2 at 6;turbine c plain of 1 at 12;"
        + "wakes 5 3 1;from 0 2;";

    public static void main(String[] args) {
        full();
        failing();
        dear();
        hops();
        robbed();
        frontAndShade();
        Check.end();
    }

    private static void full() {
        WakePark x = Check.told(TREE);
        Check.same("full", x.full(), 1 + 2 + 8 + 32);
        x.shut(1);
        Check.same("b is shut", x.full(), 1 + 32);
        x.step();
        Check.same("no wind", x.full(), 0);
        x = Check.told("turbine a plain of 1 at 0;turbine b plain of 1 at 1;cable b home holds 1;cable a to b holds 10;");
        Check.same("just full", x.full(), 3);
        x.shut(1);
        Check.same("by what comes to it", x.full(), 3);
        x.turn(0, 1);
        Check.same("nine of ten", x.full(), 2);
        Check.same("none", new WakePark().full(), 0);
    }

    private static void failing() {
        WakePark x = Check.told(TREE);
        int[] due = {36, 16, 33, 6, -1, 35};
        for (int i = 0; i < due.length; i++) {
            Check.same("fault " + i, x.fault(i), due[i]);
        }
        for (int other : new int[] {-1, 6, Integer.MIN_VALUE, Integer.MAX_VALUE}) {
            Check.same("others", x.fault(other), -1);
        }
        Check.same("home as it was", x.home(), 41);
        x.shut(1);
        Check.same("what comes to b is lost too", x.fault(1), 16);
    }

    private static void dear() {
        WakePark x = Check.told(TREE);
        Check.same("d", x.dear(), 3);
        x.step();
        Check.same("no wind: the first", x.dear(), 0);
        Check.same("no cable", Check.told("turbine a plain of 1 at 0;").dear(), -1);
        Check.same("no turbine", new WakePark().dear(), -1);
        x = Check.told("turbine a plain of 1 at 0;turbine b plain of 1 at 1;turbine c plain of 1 at 2;"
            + "cable c home holds 5;cable b home holds 5;");
        Check.same("of equal ones the first", x.dear(), 1);
        x = Check.told("turbine a plain of 1 at 0;turbine b plain of 1 at 1;turbine c plain of 1 at 2;"
            + "cable c home holds 6;cable b home holds 5;");
        Check.same("the greater one", x.dear(), 2);
    }

    private static void hops() {
        WakePark x = Check.told(TREE);
        int[] due = {3, 2, 3, 1, 0, 1};
        for (int i = 0; i < due.length; i++) {
            Check.same("hops " + i, x.hops(i), due[i]);
        }
        for (int other : new int[] {-1, 6, Integer.MIN_VALUE, Integer.MAX_VALUE}) {
            Check.same("others", x.hops(other), -1);
        }
        x = Check.told("turbine a plain of 1 at 0;turbine b plain of 1 at 1;turbine c plain of 1 at 2;"
            + "turbine d plain of 2 at 3;turbine e plain of 2 at 4;turbine f plain of 2 at 5;"
            + "cable f home holds 9;cable e to f holds 9;cable d to e holds 9;cable c to d holds 9;cable b to c holds 9;"
            + "cable a to b holds 9;");
        for (int i = 0; i < 6; i++) {
            Check.same("a line of six", x.hops(i), 6 - i);
        }
    }

    private static void robbed() {
        WakePark x = Check.told(COLUMN);
        Check.same("of 1: c 7 for 2", x.robbed(1), 5);
        Check.same("of 2: b 10 for 5", x.robbed(2), 5);
        for (int other : new int[] {-1, 0, 3, Integer.MIN_VALUE, Integer.MAX_VALUE}) {
            Check.same("others", x.robbed(other), -1);
        }
        x.shut(2);
        Check.same("c is shut", x.robbed(1), 0);
        x.shut(1);
        Check.same("b is shut", x.robbed(2), 0);
        x.open(2);
        Check.same("b is shut already", x.robbed(1), 0);
        Check.same("nothing was shut", x.count(7), 5);
        x.open(1);
        x.turn(1, 0);
        Check.same("b turned aside", x.robbed(1), 0);
        Check.same("none", new WakePark().robbed(2), 0);
        WakePark z = Check.told("turbine a plain of 1 at 6;turbine b plain of 2 at 0;turbine c plain of 1 at 12;blows 20;");
        Check.same("of 1: a 20 for 10, c 10 for 4", z.robbed(1), 16);
        WakePark y = Check.told("turbine a plain of 2 at 0;turbine b old of 1 at 6;wears 2;from 0;");
        Check.same("b", y.robbed(1), 5);
        y.step();
        Check.same("b is broken", y.robbed(1), 0);
    }

    private static void frontAndShade() {
        WakePark x = Check.told(COLUMN);
        int[] shades = {6, 4, 0};
        for (int i = 0; i < 3; i++) {
            Check.same("shade " + i, x.shade(i), shades[i]);
        }
        Check.same("front", x.front(), 1);
        x.shut(0);
        Check.same("b in front, a too", x.front(), 3);
        Check.same("shut", x.shade(0), 0);
        x.open(0);
        x.step();
        Check.same("from the south", x.front(), 4);
        Check.same("from the south", x.shade(2), 3);
        Check.same("from the south", x.shade(1), 1);
        for (int other : new int[] {-1, 3, Integer.MIN_VALUE, Integer.MAX_VALUE}) {
            Check.same("others", x.shade(other), -1);
        }
        x = Check.told("turbine a plain of 1 at 0;turbine b tall of 1 at 18;turbine c small of 1 at 1;turbine d plain of 1 at 19;");
        Check.same("a takes a tenth of b", x.shade(0), 2);
        Check.same("c takes nothing", x.shade(2), 0);
        Check.same("nothing is TAKEN", x.front(), 15);
        Check.same("none", new WakePark().front(), 0);
        Check.same("none", new WakePark().shade(0), -1);
    }
}
