/** Promises 26 to 32, sentence by sentence: cables that are full, dear, that fail, and who stands in whose wake. */
public final class CableTest {
    private static final String SIX = "turbine a plain of 1 at 0;turbine b plain of 1 at 1;turbine c plain of 1 at 2;"
        + "turbine d plain of 2 at 3;turbine e plain of 2 at 4;turbine f plain of 2 at 5;";
    private static final String TREE = SIX + "blows 10 0;cable d home holds 35;cable b to d holds 25;cable a to b holds 7;"
        + "cable c to b holds 200;cable f home holds 6;";
    private static final String COLUMN = "turbine a plain of 1 at 0;turbine b plain of 2 at 6;turbine c plain of 1 at 12;"
        + "wakes 5 3 1;from 0 2;";
    private static final int[] OTHERS = {-1, 6, 7, Integer.MIN_VALUE, Integer.MAX_VALUE};

    public static void main(String[] args) {
        full();
        fullByNothing();
        dear();
        dearOfEqualOnes();
        noCableIsDear();
        failing();
        failingOthers();
        robbed();
        robbedOfThoseThatRun();
        robbedOthers();
        front();
        shade();
        shadeOthers();
        hops();
        hopsOthers();
        Check.end();
    }

    private static void full() {
        Check.says(26, "FULL: cables that carry all they hold");
        WakePark x = Check.told(TREE);
        Check.same("a 7, b 25, d 35, f 6", x.full(), 1 + 2 + 8 + 32);
        x.shut(1);
        Check.same("b is shut", x.full(), 1 + 32);
        for (int holds : new int[] {9, 10, 11}) {
            Check.same("10 of " + holds, Check.told(SIX + "cable f home holds " + holds + ";").full(), holds <= 10 ? 32 : 0);
        }
        x = Check.told("turbine a plain of 1 at 0;turbine b plain of 1 at 1;cable b home holds 1;cable a to b holds 10;");
        Check.same("just full", x.full(), 3);
        x.shut(1);
        Check.same("by what comes to it", x.full(), 3);
        x.turn(0, 1);
        Check.same("nine of ten", x.full(), 2);
        Check.same("all six", Check.told(SIX + "cable a home holds 1;cable b home holds 1;cable c home holds 1;cable d home holds 1;"
            + "cable e home holds 1;cable f home holds 1;").full(), 63);
        Twin.leaves("full: a's", y -> y.full(), 1);
    }

    private static void fullByNothing() {
        Check.says(26, "(bits; 0 POWER does not fill one)");
        WakePark x = Check.told(TREE);
        x.step();
        Check.same("no wind", x.full(), 0);
        Check.same("without cables", Check.told(SIX).full(), 0);
        Check.same("an empty sea", new WakePark().full(), 0);
        x = Check.told(SIX + "cable a home holds 1;cable b home holds 1;");
        x.shut(0);
        Check.same("one that is shut", x.full(), 2);
    }

    private static void dear() {
        Check.says(27, "DEAR: the cable by which, failing (carrying nothing), the least comes HOME");
        WakePark x = Check.told(TREE);
        Check.same("d", x.dear(), 3);
        Check.same("home as it was", x.home(), 41);
        String two = "turbine a plain of 1 at 0;turbine b plain of 1 at 1;turbine c plain of 1 at 2;";
        Check.same("c", Check.told(two + "cable c home holds 6;cable b home holds 5;").dear(), 2);
        Check.same("b", Check.told(two + "cable c home holds 5;cable b home holds 6;").dear(), 1);
        Check.same("what comes to it fails, too", Check.told(two + "cable c home holds 5;cable a home holds 7;cable b to c holds 9;"
            + "blows 3;").dear(), 2);
        Check.same("one alone", Check.told(two + "cable c home holds 6;").dear(), 2);
        Check.same("the sixth", Check.told(SIX + "cable f home holds 9;cable a to f holds 9;").dear(), 5);
    }

    private static void dearOfEqualOnes() {
        Check.says(27, "of equal ones the first");
        WakePark x = Check.told(TREE);
        x.step();
        Check.same("no wind", x.dear(), 0);
        Check.same("b", Check.told("turbine a plain of 1 at 0;turbine b plain of 1 at 1;turbine c plain of 1 at 2;"
            + "cable c home holds 5;cable b home holds 5;").dear(), 1);
        Check.same("no wind, a has no cable", Check.told(SIX + "blows 0;cable e home holds 9;cable d home holds 9;").dear(), 3);
    }

    private static void noCableIsDear() {
        Check.says(27, "DEAR; NONE: there is no cable.");
        Check.same("no cable", Check.told(SIX).dear(), -1);
        Check.same("no turbine", new WakePark().dear(), -1);
        Twin.leaves("dear: c's 14, not a's 12", y -> y.dear(), 2);
    }

    private static void failing() {
        Check.says(28, "FAULT: what comes HOME if that of one fails.");
        WakePark x = Check.told(TREE);
        int[] due = {36, 16, 33, 6, -1, 35};
        for (int i = 0; i < due.length; i++) {
            Check.same("fault " + i, x.fault(i), due[i]);
            Check.same("home as it was", x.home(), 41);
        }
        x.shut(1);
        Check.same("what comes to b is lost, too", x.fault(1), 16);
        x = Check.told("turbine a plain of 1 at 0;cable a home holds 9;");
        Check.same("nothing", x.fault(0), 0);
    }

    private static void failingOthers() {
        Check.says(28, "FAULT; NONE: others, no cable.");
        WakePark x = Check.told(TREE);
        for (int other : OTHERS) {
            Check.same("others", x.fault(other), -1);
        }
        Check.same("no cable", x.fault(4), -1);
        Check.same("the last one", x.fault(5), 35);
        Check.same("just outside", Check.told(COLUMN).fault(3), -1);
        Check.same("none at all", new WakePark().fault(0), -1);
        Twin.leaves("fault", y -> y.fault(0), 14);
        Twin.leaves("no cable", y -> y.fault(3), -1);
        Twin.leaves("others", y -> y.fault(4), -1);
    }

    private static void robbed() {
        Check.says(29, "ROBBED of an owner: how much more WIND, together, would reach its own that are open and whole, "
            + "if all of the other one were shut.");
        WakePark x = Check.told(COLUMN);
        Check.same("of 1: c has 7 for 2", x.robbed(1), 5);
        Check.same("of 2: b has 10 for 5", x.robbed(2), 5);
        Check.same("nothing was shut", x.count(7), 7);
        x = Check.told("turbine a plain of 1 at 6;turbine b plain of 2 at 0;turbine c plain of 1 at 12;blows 20;");
        Check.same("of 1: a has 20 for 10, c 10 for 4", x.robbed(1), 16);
        Check.same("of 2: nothing", x.robbed(2), 0);
        x.turn(1, 4);
        Check.same("b turned aside", x.robbed(1), 0);
        x = Check.told(SIX.replace("of 2", "of 1"));
        Check.same("all are of 1", x.robbed(1), 0);
        Check.same("all are of 1", x.robbed(2), 0);
        // All of the other one: c has all its wind only if both are shut.
        x = Check.told("turbine a plain of 1 at 0;turbine b plain of 1 at 6;turbine c plain of 2 at 12;wakes 5 3 1;");
        Check.same("of 2: c has 10 for 2", x.robbed(2), 8);
        x = Check.told("turbine a plain of 1 at 0;turbine b plain of 1 at 6;turbine c plain of 2 at 12;turbine d tall of 2 at 18;"
            + "wakes 9 9 9;");
        Check.same("of 2: c 10 for 1, d 2 for 2", x.robbed(2), 9);
    }

    private static void robbedOfThoseThatRun() {
        Check.says(29, "its own that are open and whole");
        WakePark x = Check.told(COLUMN);
        x.shut(2);
        Check.same("c is shut", x.robbed(1), 0);
        x.shut(1);
        Check.same("b is shut", x.robbed(2), 0);
        x.open(2);
        Check.same("b is shut already", x.robbed(1), 0);
        WakePark y = Check.told("turbine a plain of 2 at 0;turbine b old of 1 at 6;wears 2;");
        Check.same("b", y.robbed(1), 5);
        y.step();
        Check.same("b is broken", y.robbed(1), 0);
    }

    private static void robbedOthers() {
        Check.says(29, "ROBBED; NONE: others.");
        WakePark x = Check.told(COLUMN);
        for (int other : new int[] {-1, 0, 3, Integer.MIN_VALUE, Integer.MAX_VALUE}) {
            Check.same("others", x.robbed(other), -1);
        }
        Check.same("an empty sea", new WakePark().robbed(1), 0);
        Check.same("an empty sea", new WakePark().robbed(2), 0);
        Twin.leaves("robbed", y -> y.robbed(1), 0);
        Twin.leaves("of others", y -> y.robbed(0), -1);
        Twin.leaves("of others", y -> y.robbed(3), -1);
    }

    private static void front() {
        Check.says(30, "FRONT: of whom nothing is TAKEN (bits).");
        WakePark x = Check.told(COLUMN);
        Check.same("from the north", x.front(), 1);
        x.step();
        Check.same("from the south", x.front(), 4);
        x = Check.told(COLUMN);
        x.shut(0);
        Check.same("a is shut: b, and a, too", x.front(), 3);
        x.shut(1);
        x.shut(2);
        Check.same("all are shut", x.front(), 7);
        x = Check.told("turbine a plain of 1 at 0;turbine b tall of 1 at 18;turbine c small of 1 at 1;turbine d plain of 1 at 19;");
        Check.same("a tenth of a tall one, a small one's tenth", x.front(), 15);
        x = Check.told(COLUMN.replace("wakes 5 3 1", "wakes 0 0 9"));
        Check.same("0 tenths", x.front(), 7);
        x = Check.told(COLUMN.replace("wakes 5 3 1", "wakes 0 1 9"));
        Check.same("a tenth", x.front(), 3);
        x = Check.told(COLUMN + "blows 0;");
        Check.same("of no wind", x.front(), 1);
        Check.same("all six", Check.told(SIX).front(), 63);
        Check.same("an empty sea", new WakePark().front(), 0);
        Twin.leaves("front: not d, a stands to the west of it", y -> y.front(), 7);
    }

    private static void shade() {
        Check.says(31, "SHADE of one: of whom it takes something (bits).");
        WakePark x = Check.told(COLUMN);
        int[] due = {6, 4, 0};
        for (int i = 0; i < 3; i++) {
            Check.same("shade " + i, x.shade(i), due[i]);
        }
        x.shut(0);
        Check.same("one that is shut", x.shade(0), 0);
        x.open(0);
        x.step();
        Check.same("from the south", x.shade(2), 3);
        Check.same("from the south", x.shade(1), 1);
        Check.same("from the south", x.shade(0), 0);
        x.shut(0);
        Check.same("of one that is shut, too", x.shade(1), 1);
        x = Check.told(COLUMN.replace("wakes 5 3 1", "wakes 0 1 1"));
        Check.same("0 tenths are nothing", x.shade(0), 4);
        x = Check.told("turbine a plain of 1 at 0;turbine b tall of 1 at 18;turbine c small of 1 at 1;turbine d plain of 1 at 19;");
        Check.same("a takes a tenth of b", x.shade(0), 2);
        Check.same("a small one's tenth is nothing", x.shade(2), 0);
        WakePark y = Check.told("turbine a old of 1 at 0;turbine b plain of 1 at 6;wears 2;");
        y.turn(0, 1);
        Check.same("whole", y.shade(0), 2);
        y.step();
        Check.same("broken", y.shade(0), 0);
        Check.same("three of six", Check.told("turbine a plain of 1 at 2;turbine b plain of 1 at 8;turbine c plain of 1 at 14;"
            + "turbine d plain of 1 at 20;turbine e plain of 1 at 26;turbine f plain of 1 at 32;").shade(2), 8 + 16 + 32);
    }

    private static void shadeOthers() {
        Check.says(31, "SHADE, as bits; NONE: others.");
        WakePark x = Check.told(COLUMN);
        Check.same("the last one", x.shade(2), 0);
        Check.same("just outside", x.shade(3), -1);
        for (int other : OTHERS) {
            Check.same("others", x.shade(other), -1);
        }
        Check.same("a seventh", Check.told(SIX).shade(6), -1);
        Check.same("none at all", new WakePark().shade(0), -1);
        Twin.leaves("shade: of d", y -> y.shade(0), 8);
        Twin.leaves("of others", y -> y.shade(4), -1);
    }

    private static void hops() {
        Check.says(32, "HOPS: over how many cables one's POWER comes home (0: it does not).");
        WakePark x = Check.told(TREE);
        int[] due = {3, 2, 3, 1, 0, 1};
        for (int i = 0; i < due.length; i++) {
            Check.same("hops " + i, x.hops(i), due[i]);
        }
        x = Check.told(SIX + "cable f home holds 9;cable e to f holds 9;cable d to e holds 9;cable c to d holds 9;cable b to c holds 9;"
            + "cable a to b holds 9;");
        for (int i = 0; i < 6; i++) {
            Check.same("a line of six", x.hops(i), 6 - i);
        }
        x = Check.told(SIX);
        for (int i = 0; i < 6; i++) {
            Check.same("without cables", x.hops(i), 0);
        }
    }

    private static void hopsOthers() {
        Check.says(32, "HOPS; NONE: others.");
        WakePark x = Check.told(TREE);
        for (int other : OTHERS) {
            Check.same("others", x.hops(other), -1);
        }
        Check.same("just outside", Check.told(COLUMN).hops(3), -1);
        Check.same("none at all", new WakePark().hops(0), -1);
        Twin.leaves("hops", y -> y.hops(1), 2);
        Twin.leaves("no cable", y -> y.hops(3), 0);
        Twin.leaves("others", y -> y.hops(4), -1);
    }
}
