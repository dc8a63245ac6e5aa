/** Promises 10 to 16: what is done by hand, undone, and a DAY judged. */
public final class HandTest {
    /** b stands behind a and is worn by 2 a step; 5 breaks it. */
    private static final String TWO = "turbine a plain of 1 at 0;turbine b old of 2 at 6;cable a home holds 50;"
        + "cable b home holds 50;price 13 8;blows 10;wears 5;slack 2;";
    private static final int[] OTHERS = {-1, 2, 6, Integer.MIN_VALUE, Integer.MAX_VALUE};

    public static void main(String[] args) {
        turning();
        shuttingAndOpening();
        mending();
        lawsNotTold();
        stepping();
        wearing();
        undoing();
        undoingSixteen();
        judging();
        judgingNothing();
        Check.end();
    }

    private static void turning() {
        WakePark x = Check.told(TWO);
        for (int other : OTHERS) {
            Check.same("turn of others", x.turn(other, 1), -1);
        }
        for (int other : new int[] {-1, 5, Integer.MIN_VALUE, Integer.MAX_VALUE}) {
            Check.same("turn to others", x.turn(0, other), -1);
        }
        Check.same("nothing was done", x.count(11), 0);
        Check.same("straight ahead", x.turn(1, 0), 2);
        Check.same("0 ahead", x.turn(1, 4), 0);
        Check.same("the same", x.turn(1, 4), 4);
        Check.same("angle", x.turbine(1, 3), 4);
        Check.same("of the other one", x.turbine(0, 3), 2);
        Check.same("three can be undone", x.count(11), 3);
        x.shut(0);
        Check.same("one that is shut turns", x.turn(0, 3), 2);
        Check.same("turning takes no time", x.count(1), 0);
    }

    private static void shuttingAndOpening() {
        WakePark x = Check.told(TWO);
        for (int other : OTHERS) {
            Check.isNot("shut of others", x.shut(other));
            Check.isNot("open of others", x.open(other));
        }
        Check.isNot("is open", x.open(0));
        Check.is("shut", x.shut(0));
        Check.isNot("is shut", x.shut(0));
        Check.same("open bits", x.count(7), 2);
        Check.is("shut", x.shut(1));
        Check.same("open bits", x.count(7), 0);
        Check.is("open", x.open(0));
        Check.same("open bits", x.count(7), 1);
        Check.same("done", x.count(11), 3);
        x = Check.told(TWO);
        for (int i = 0; i < 3; i++) {
            x.step();
        }
        Check.same("b is broken", x.count(8), 2);
        Check.isNot("a broken one is open", x.open(1));
        Check.is("a broken one is shut", x.shut(1));
        x.step();
        Check.is("it is mended", x.mend(1));
        Check.same("but shut", x.turbine(1, 4), 0);
        Check.same("and whole", x.turbine(1, 5), 0);
        Check.is("it is opened", x.open(1));
    }

    private static void mending() {
        WakePark x = Check.told(TWO);
        for (int other : OTHERS) {
            Check.isNot("mend of others", x.mend(other));
        }
        Check.isNot("whole", x.mend(1));
        x.step();
        x.step();
        Check.isNot("worn, but whole", x.mend(1));
        x.step();
        Check.same("broken", x.turbine(1, 5), 1);
        Check.same("how worn", x.turbine(1, 6), 6);
        Check.isNot("no slack water at 3", x.mend(1));
        x.step();
        Check.same("a broken one is not worn", x.turbine(1, 6), 6);
        Check.is("slack water at 4", x.mend(1));
        Check.same("whole", x.turbine(1, 5), 0);
        Check.same("not worn", x.turbine(1, 6), 0);
        Check.isNot("whole", x.mend(1));
        WakePark y = Check.told("turbine a plain of 1 at 0;wears 1;");
        y.turn(0, 1);
        for (int step = 1; step <= 12; step++) {
            y.step();
            boolean slack = step % 6 == 0;
            Check.same("slack each 6 at " + step, y.mend(0) ? 1 : 0, slack ? 1 : 0);
            if (slack) {
                y.undo();
            }
        }
    }

    private static void lawsNotTold() {
        WakePark x = Check.told("turbine a plain of 1 at 0;turbine b plain of 1 at 6;");
        Check.same("wears 20", x.breaks(1), 20);
        Check.same("wakes 5", x.takes(0, 1), 5);
        x = Check.told("turbine a plain of 1 at 0;turbine b plain of 1 at 6;wears 1;slack 1;");
        for (int step = 1; step < 14; step++) {
            x.step();
            Check.is("slack 1: each step", x.mend(1));
        }
    }

    private static void stepping() {
        WakePark x = Check.told(TWO);
        int[] sold = {45, -30, 45, -20, 30, -20};
        int all = 0;
        for (int i = 0; i < sold.length; i++) {
            Check.same("step " + i, x.count(1), i);
            Check.same("sold in " + i, x.step(), sold[i]);
            all += sold[i];
            Check.same("sold by " + i, x.count(6), all);
        }
        WakePark y = new WakePark();
        Check.same("an empty sea", y.step(), 0);
        Check.same("next", y.count(1), 1);
        Check.same("undo", y.count(11), 1);
        WakePark z = Check.told("turbine a plain of 1 at 0;price 20;");
        Check.same("without a cable nothing is sold", z.step(), 0);
    }

    private static void wearing() {
        for (String kind : new String[] {"plain", "tall", "old", "small"}) {
            int times = kind.equals("old") ? 2 : 1;
            for (int angle = 0; angle < 5; angle++) {
                WakePark x = Check.told("turbine a " + kind + " of 1 at 0;turbine b " + kind + " of 1 at 6;wakes 5 0 0;wears 99;");
                x.turn(1, angle);
                x.step();
                int turned = Math.abs(angle - 2);
                Check.same("worn " + kind + angle, x.turbine(1, 6), times * (turned + 1));
                Check.same("in front", x.turbine(0, 6), 0);
                x.shut(0);
                x.step();
                Check.same("by the angle alone", x.turbine(1, 6), times * (2 * turned + 1));
                x.shut(1);
                x.step();
                Check.same("shut", x.turbine(1, 6), times * (2 * turned + 1));
            }
        }
        WakePark x = Check.told("turbine a plain of 1 at 0;turbine b tall of 1 at 6;wakes 1 0 0;");
        x.step();
        Check.same("nothing is TAKEN of a tall one", x.turbine(1, 6), 0);
        x = Check.told("turbine a plain of 1 at 0;turbine b plain of 1 at 6;blows 0;wakes 1 0 0;wears 2;");
        x.step();
        Check.same("a tenth of no wind is TAKEN", x.turbine(1, 6), 1);
        Check.same("below wears it is whole", x.count(8), 0);
        x.step();
        Check.same("by as much it is broken", x.count(8), 2);
    }

    private static void undoing() {
        WakePark x = Check.told(TWO);
        Check.isNot("nothing", x.undo());
        x.step();
        x.step();
        x.turn(0, 0);
        x.turn(0, 2);
        x.step();
        Check.same("broken", x.count(8), 2);
        x.step();
        x.mend(1);
        x.shut(1);
        x.open(1);
        x.see(0, 3);
        Check.same("done", x.count(11), 9);
        Check.is("undo open", x.undo());
        Check.same("shut", x.count(7), 1);
        Check.is("undo shut", x.undo());
        Check.same("open", x.count(7), 3);
        Check.is("undo mend", x.undo());
        Check.same("broken", x.count(8), 2);
        Check.same("worn", x.turbine(1, 6), 6);
        Check.is("undo step", x.undo());
        Check.same("step", x.count(1), 3);
        Check.same("sold", x.count(6), 60);
        Check.is("undo step", x.undo());
        Check.same("whole", x.count(8), 0);
        Check.same("worn", x.turbine(1, 6), 4);
        Check.same("sold", x.count(6), 15);
        Check.is("undo turn", x.undo());
        Check.same("angle", x.turbine(0, 3), 0);
        Check.is("undo turn", x.undo());
        Check.same("angle", x.turbine(0, 3), 2);
        Check.same("left", x.count(11), 2);
        Check.same("what is SEEN stays", x.count(10), 1);
        Check.same("again", x.step(), 45);
        Check.same("left", x.count(11), 3);
    }

    private static void undoingSixteen() {
        WakePark x = Check.told(TWO);
        for (int i = 0; i < 40; i++) {
            x.turn(0, i % 5);
            Check.same("can be undone", x.count(11), Math.min(i + 1, 16));
        }
        for (int i = 39; i >= 24; i--) {
            Check.same("angle", x.turbine(0, 3), i % 5);
            Check.is("undo", x.undo());
            Check.same("left", x.count(11), i - 24);
        }
        Check.same("angle", x.turbine(0, 3), 23 % 5);
        Check.isNot("no more", x.undo());
        Check.same("angle", x.turbine(0, 3), 23 % 5);
    }

    private static void judging() {
        WakePark x = Check.told(TWO);
        x.step();
        x.shut(0);
        x.turn(1, 4);
        Check.same("day", Check.readDay(x, "turn a 0;step;step;shut b;step;open a;mend b;step;mend a;open b;step;"), 0);
        Check.same("can't be", x.judged(0), 5);
        Check.same("breaks", x.judged(1), 4);
        Check.same("sold", x.judged(2), 48 - 32 + 18 + 0 + 48);
        for (int other : new int[] {-1, 3, Integer.MIN_VALUE, Integer.MAX_VALUE}) {
            Check.same("others", x.judged(other), -1000000);
        }
        Check.same("all is as it was", x.count(1), 1);
        Check.same("all is as it was", x.count(6), 45);
        Check.same("all is as it was", x.count(7), 2);
        Check.same("all is as it was", x.turbine(1, 3), 4);
        Check.same("all is as it was", x.count(11), 3);
        Check.same("day", Check.readDay(x, "shut a;shut a;"), 0);
        Check.same("shut twice", x.judged(0), 1);
        Check.same("day", Check.readDay(x, "turn a 2;step;step;step;mend b;step;mend b;step;step;step;"), 0);
        Check.same("no slack water", x.judged(0), 4);
        Check.same("the first of two breaks", x.judged(1), 3);
        Check.same("sold", x.judged(2), 45 - 30 + 45 - 20 + 45 - 30 + 45);
        Check.same("day", Check.readDay(x, "turn a 0;turn a 0;shut a;open a;step;"), 0);
        Check.same("all can be", x.judged(0), -1);
        Check.same("none breaks", x.judged(1), -1);
        Check.same("sold", x.judged(2), 48);
        Check.same("a day of steps", Check.readDay(x, "step;".repeat(40)), 0);
        Check.same("sold", x.judged(2), 45 - 30 + 45 - 20 * 19 + 30 * 18);
    }

    private static void judgingNothing() {
        WakePark x = Check.told(TWO);
        x.step();
        Check.same("no line", x.judged(0), -1);
        Check.same("no line", x.judged(1), -1);
        Check.same("nothing", x.judged(2), 0);
    }
}
