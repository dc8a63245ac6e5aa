/** Promises 1 to 4: a new object, the tape, a PARK, a DAY, and their FAULTS. */
public final class TextTest {
    private static final String SIX = "turbine a plain of 1 at 0;turbine b plain of 1 at 1;turbine c plain of 1 at 2;"
        + "turbine d plain of 1 at 3;turbine e plain of 1 at 4;turbine f plain of 1 at 5;";
    private static final String ONE = "turbine a plain of 1 at 0;";

    public static void main(String[] args) {
        aNewObjectIsNothing();
        feedKeepsSigns();
        feedHoldsAThousand();
        parkIsRead();
        parkBeginsAnew();
        aFaultLeavesAll();
        tokensAreAsLongAsCanBe();
        turbineFaults();
        cableFaults();
        listFaults();
        numberFaults();
        lawFaults();
        dayIsRead();
        dayFaults();
        Check.end();
    }

    private static void aNewObjectIsNothing() {
        WakePark x = new WakePark();
        int[] due = {0, 0, 10, 0, 0, 0, 0, 0, 0, 0, 0, 0, 0};
        for (int what = 0; what < due.length; what++) {
            Check.same("new count " + what, x.count(what), due[what]);
        }
        Check.isNot("new undo", x.undo());
        for (int mark = 0; mark < 4; mark++) {
            Check.isNot("new mark", x.mark(mark, true));
        }
        Check.same("new turbine", x.turbine(0, 0), -2);
        Check.same("new judged", x.judged(1), -1);
        Check.same("NONE", WakePark.NONE, -1);
    }

    private static void feedKeepsSigns() {
        WakePark x = new WakePark();
        Check.same("nothing", x.feed(0, 0, 0), 0);
        Check.same("others", x.feed(0x090B1F7F80FFC200L, -1, Long.MIN_VALUE), 0);
        Check.same("edges", x.feed(0x0A207E, 0, 0), 3);
        Check.same("the last byte of each", x.feed(32, 32, 32), 6);
        Check.same("count", x.count(12), 6);
        x = new WakePark();
        Check.same("order", x.feed(Check.eight("wears  5", 0), Check.eight("5;slack ", 0), Check.eight("7;", 0)), 18);
        Check.same("55 is read as one", x.park(), 0);
        Check.same("taken", x.count(12), 0);
        x.feed('w', ('e' << 8) + 'a', Check.eight("rs 1", 0));
        Check.same("signs of a, b, c", x.park(), 1 + 16 * 7);
    }

    private static void feedHoldsAThousand() {
        WakePark x = new WakePark();
        long blanks = Check.eight("        ", 0);
        for (int i = 1; i <= 41; i++) {
            Check.same("blanks", x.feed(blanks, blanks, blanks), 24 * i);
        }
        Check.same("fits", x.feed(Check.eight("  wears ", 0), Check.eight("1;slack ", 0), 0), 1000);
        Check.same("full", x.feed(blanks, blanks, blanks), 1000);
        Check.same("full", x.feed(0, 0, 0), 1000);
        Check.same("the end is at 1000", x.park(), 1 + 16 * 1000);
        Check.same("empty again", x.feed(32, 0, 0), 1);
    }

    private static void parkIsRead() {
        WakePark x = Check.told("turbine zebra tall of 2 at 35;\ncable zebra home holds 200;blows 30 0;from 3;"
            + "price 20 0;wakes 9 0 9;wears 99;slack 12;gives 7;turbine wind small of 1 at 0;"
            + "turbine night old of 1 at 1;cable wind to zebra holds 1;turbine angle plain of 1 at 2;");
        Check.same("turbines", x.count(0), 4);
        int[][] due = {{1, 2, 35, 2, 1, 0, 0, 6, 200}, {3, 1, 0, 2, 1, 0, 0, 0, 1}, {2, 1, 1, 2, 1, 0, 0, -1, 0},
            {0, 1, 2, 2, 1, 0, 0, -1, 0}};
        for (int i = 0; i < due.length; i++) {
            for (int what = 0; what < 9; what++) {
                Check.same("turbine " + i + " " + what, x.turbine(i, what), due[i][what]);
            }
        }
        Check.same("blows", x.count(2), 30);
        Check.same("from", x.count(3), 3);
        Check.same("price", x.count(4), 10);
        Check.same("power", x.power(0), 7);
        x.step();
        Check.same("blows then", x.count(2), 0);
        Check.same("from again", x.count(3), 3);
        Check.same("price then", x.count(4), -10);
        Check.same("nothing told", Check.readPark(x, " \n "), 0);
        Check.same("no turbines", x.count(0), 0);
        Check.same("blows 10", x.count(2), 10);
        Check.same("from 0", x.count(3), 0);
        Check.same("price 10", x.count(4), 0);
        x = Check.told("blows 1 2 3 4 5 6 7 8;from 0 1 2;price 20 19;");
        for (int step = 0; step < 20; step++) {
            Check.same("blows", x.count(2), step % 8 + 1);
            Check.same("from", x.count(3), step % 3);
            Check.same("price", x.count(4), 10 - step % 2);
            x.step();
        }
    }

    private static void parkBeginsAnew() {
        WakePark x = Check.told(ONE + "cable a home holds 9;price 20;wears 1;");
        x.turn(0, 0);
        x.step();
        x.shut(0);
        x.see(0, 1);
        x.mark(2, false);
        Check.same("day", Check.readDay(x, "step;"), 0);
        Check.same("sold", x.count(6), 60);
        Check.same("the same again", Check.readPark(x, ONE), 0);
        int[] due = {1, 0, 10, 0, 0, 10, 0, 1, 0, 0, 0, 0, 0};
        for (int what = 0; what < due.length; what++) {
            Check.same("anew count " + what, x.count(what), due[what]);
        }
        Check.same("straight", x.turbine(0, 3), 2);
        Check.same("not worn", x.turbine(0, 6), 0);
        Check.same("no cable", x.turbine(0, 7), -1);
        Check.isNot("no mark", x.mark(2, true));
        Check.isNot("no undo", x.undo());
        Check.same("wears 20 again", x.breaks(0), -1);
    }

    private static void aFaultLeavesAll() {
        WakePark x = Check.told(ONE + "cable a home holds 3;blows 12;");
        x.turn(0, 1);
        x.step();
        x.see(0, 4);
        x.mark(0, false);
        Check.readDay(x, "step;step;");
        Check.same("faulty park", Check.readPark(x, "turbine b old of 2 at 3;blows 5;gives 1;oh"), 1 + 16 * 40);
        Check.same("faulty day", Check.readDay(x, "shut a;step;step;shut b;"), 2 + 16 * 22);
        Check.same("tape", x.count(12), 0);
        int[] due = {1, 1, 12, 0, 0, 10, 0, 1, 0, 2, 1, 2, 0};
        for (int what = 0; what < due.length; what++) {
            Check.same("as before count " + what, x.count(what), due[what]);
        }
        Check.same("angle", x.turbine(0, 3), 1);
        Check.same("home", x.home(), 3);
        Check.same("a is known by a day", Check.readDay(x, "shut a;"), 0);
        Check.same("b is not", Check.readDay(x, "shut b;"), 2 + 16 * 5);
        Check.is("mark", x.mark(0, true));
    }

    private static void tokensAreAsLongAsCanBe() {
        Check.told("turbine abcdefgh plain of1at2;cable abcdefgh home holds5;");
        Check.told("turbine a plain of 0001 at 0035;wears 0099;");
        Check.told("blows 1\n2 3;from\n0;\n");
        Check.parkFault(1, "turbine ^abcdefghi plain of 1 at 2;");
        Check.parkFault(1, "turbine a plain of ^00001 at 2;");
        Check.parkFault(1, "^turbines a plain of 1 at 2;");
        Check.parkFault(1, "^turbinea plain of 1 at 2;");
        Check.parkFault(1, "turbine a ^plainof 1 at 2;");
        Check.parkFault(1, "^Turbine a plain of 1 at 2;");
        Check.parkFault(1, "turbine a^B plain of 1 at 2;");
        Check.parkFault(1, "turbine a^2 plain of 1 at 2;");
        Check.parkFault(1, "turbine a plain of 1^x at 2;");
        Check.parkFault(1, "turbine a plain of ^-1 at 2;");
        Check.parkFault(1, "blows 1^, 2;");
        Check.parkFault(1, "gives 1 ^/ 2;");
        Check.parkFault(4, "blows ^1234;");
        Check.parkFault(1, "blows ^12345;");
    }

    private static void turbineFaults() {
        Check.parkFault(1, "^;");
        Check.parkFault(1, "^turn a 1;");
        Check.parkFault(1, "^7;");
        Check.parkFault(1, "^wind;");
        Check.parkFault(1, "turbine^");
        Check.parkFault(1, "turbine  ^");
        Check.parkFault(1, "turbine \n^");
        for (String kept : new String[] {"turbine", "of", "at", "cable", "to", "home", "holds", "blows", "from", "price",
            "wakes", "wears", "slack", "gives", "turn", "shut", "open", "mend", "step", "plain", "tall", "old", "small",
            "not", "and", "or"}) {
            Check.parkFault(1, "turbine ^" + kept + " plain of 1 at 2;");
            Check.parkFault(1, ONE + "cable ^" + kept + " home holds 2;");
            Check.dayFault(ONE, 1, "shut ^" + kept + ";");
        }
        for (String free : new String[] {"wind", "worn", "angle", "night", "e", "day", "park", "ofs", "tal"}) {
            Check.told("turbine " + free + " plain of 1 at 2;cable " + free + " home holds 2;");
        }
        Check.parkFault(1, "turbine ^5 plain of 1 at 2;");
        Check.parkFault(3, ONE + "turbine ^a plain of 1 at 2;");
        Check.parkFault(1, "turbine a ^b of 1 at 2;");
        Check.parkFault(1, "turbine a plain ^at 1 at 2;");
        Check.parkFault(1, "turbine a plain of ^at 2;");
        Check.parkFault(4, "turbine a plain of ^0 at 2;");
        Check.parkFault(4, "turbine a plain of ^3 at 2;");
        Check.parkFault(1, "turbine a plain of 1 ^of 2;");
        Check.parkFault(1, "turbine a plain of 1 at ^;");
        Check.parkFault(4, "turbine a plain of 1 at ^36;");
        Check.parkFault(3, ONE + "turbine b plain of 1 at ^0;");
        Check.parkFault(1, "turbine a plain of 1 at 2 ^turbine");
        Check.parkFault(1, "turbine a plain of 1 at 2^");
        Check.told(SIX);
        Check.parkFault(5, SIX + "^turbine g plain of 1 at 6;");
        Check.parkFault(5, SIX + "^turbine");
    }

    private static void cableFaults() {
        String two = ONE + "turbine b plain of 1 at 1;";
        Check.parkFault(1, "cable ^7 home holds 1;");
        Check.parkFault(2, "cable ^a home holds 1;" + ONE);
        Check.parkFault(1, ONE + "cable a ^holds 1;");
        Check.parkFault(1, ONE + "cable a home ^1;");
        Check.parkFault(1, ONE + "cable a home holds ^;");
        Check.parkFault(4, ONE + "cable a home holds ^0;");
        Check.parkFault(4, ONE + "cable a home holds ^201;");
        Check.parkFault(1, ONE + "cable a home holds 1 ^1;");
        Check.parkFault(3, ONE + "cable a home holds 1;cable ^a home holds 1;");
        Check.parkFault(3, two + "cable a home holds 1;cable b home holds 2;cable ^b to a holds 1;");
        Check.parkFault(1, two + "cable a to ^home holds 1;");
        Check.parkFault(1, two + "cable a to ^4 holds 1;");
        Check.parkFault(2, two + "cable a to ^c holds 1;");
        Check.parkFault(2, two + "cable a to ^b holds 1;");
        Check.parkFault(2, two + "cable a to ^a holds 1;");
        Check.parkFault(1, two + "cable a home holds 1;cable b to a ^to");
        Check.told(two + "cable b home holds 1;cable a to b holds 200;");
    }

    private static void listFaults() {
        for (String list : new String[] {"blows", "from", "price"}) {
            Check.told(list + " 1 2 3 0 1 2 3 0;");
            Check.parkFault(1, list + " ^;");
            Check.parkFault(1, list + " 1 ^a;");
            Check.parkFault(1, list + " 1^");
            Check.parkFault(5, list + " 1 2 3 0 1 2 3 0 ^1;");
            Check.parkFault(3, list + " 1;" + ONE + "^" + list + " 1;");
            // Such a ninth NUMBER is wrong in two ways, of which the least is told.
            Check.parkFault(4, list + " 1 2 3 0 1 2 3 0 ^99;");
        }
        Check.parkFault(4, "blows 30 0 ^31;");
        Check.parkFault(4, "from 3 ^4;");
        Check.parkFault(4, "price 20 ^21;");
    }

    private static void numberFaults() {
        Check.told("wakes 0 9 0;");
        Check.parkFault(1, "wakes 1 2^;");
        Check.parkFault(1, "wakes 1 2 3 ^4;");
        Check.parkFault(4, "wakes 1 2 ^10;");
        Check.parkFault(3, "wakes 1 2 3;^wakes 1 2 3;");
        Check.told("wears 1;");
        Check.told("wears 99;");
        Check.parkFault(4, "wears ^0;");
        Check.parkFault(4, "wears ^100;");
        Check.parkFault(1, "wears 1 ^1;");
        Check.parkFault(3, "wears 1;^wears 1;");
        Check.told("slack 1;");
        Check.told("slack 12;");
        Check.parkFault(4, "slack ^0;");
        Check.parkFault(4, "slack ^13;");
        Check.parkFault(3, "slack 1;^slack");
        Check.parkFault(3, "gives 1;^gives 1;");
    }

    private static void lawFaults() {
        Check.parkFault(1, "gives ^;");
        Check.parkFault(1, "gives ^-1;");
        Check.parkFault(1, "gives ^a;");
        Check.parkFault(1, "gives ^and 1;");
        Check.parkFault(1, "gives 1 ^not 1;");
        Check.parkFault(1, "gives 1 ^2;");
        Check.parkFault(1, "gives 1 + ^;");
        Check.parkFault(1, "gives 1 and ^or 1;");
        Check.parkFault(1, "gives 1 < 2 ^< 3;");
        Check.parkFault(1, "gives 1 = 2 ^< 3;");
        Check.parkFault(1, "gives 1 <^= 3;");
        Check.parkFault(1, "gives (1^;");
        Check.parkFault(1, "gives (1^");
        Check.parkFault(1, "gives (^);");
        Check.parkFault(1, "gives 1^);");
        Check.parkFault(1, "gives not ^;");
        Check.parkFault(1, "gives 1^");
        Check.told("gives ((((1))));");
        Check.told("gives not not not not 1;");
        Check.told("gives not(not(wind)) + ((((worn)))) * not not (not night);");
        Check.parkFault(5, "gives (((((^1)))));");
        Check.parkFault(5, "gives (((((^(1))))));");
        Check.parkFault(5, "gives not not not not not ^1;");
        Check.parkFault(5, "gives not not not not not ^not 1;");
        Check.parkFault(5, "gives not (not (not ^(wind)));");
        Check.told("gives (1 + (2 * not (wind < 3))) + (not (not 4)) - 5;");
        Check.parkFault(5, "gives 1 and ((not ((^1 + angle))));");
        Check.parkFault(1, "gives (((((^))))));");
        Check.parkFault(1, "gives (((((^at)))));");
        Check.parkFault(1, "gives (((((^;");
        Check.parkFault(1, "gives (((((^");
    }

    private static void dayIsRead() {
        WakePark x = Check.told(ONE);
        Check.same("day", Check.readDay(x, "turn a 0;turn a 4;shut a;open a;mend a;step;"), 0);
        Check.same("lines", x.count(9), 6);
        Check.same("another day", Check.readDay(x, "\nstep ; step;"), 0);
        Check.same("lines", x.count(9), 2);
        Check.same("an empty day", Check.readDay(x, ""), 0);
        Check.same("lines", x.count(9), 0);
        Check.same("forty", Check.readDay(x, "step;".repeat(40)), 0);
        Check.same("lines", x.count(9), 40);
        Check.same("one more", Check.readDay(x, "step;".repeat(41)), 5 + 16 * 200);
        Check.same("lines as before", x.count(9), 40);
        Check.same("a day is no step", x.count(1), 0);
        Check.same("a day can't be undone", x.count(11), 0);
    }

    private static void dayFaults() {
        Check.dayFault(ONE, 1, "^turbine b plain of 1 at 1;");
        Check.dayFault(ONE, 1, "^a;");
        Check.dayFault(ONE, 1, "^;");
        Check.dayFault(ONE, 1, "step ^a;");
        Check.dayFault(ONE, 1, "step^");
        Check.dayFault(ONE, 1, "turn ^1 1;");
        Check.dayFault(ONE, 2, "turn ^b 1;");
        Check.dayFault(ONE, 1, "turn a ^a;");
        Check.dayFault(ONE, 4, "turn a ^5;");
        Check.dayFault(ONE, 1, "turn a 4 ^4;");
        Check.dayFault(ONE, 1, "shut a ^1;");
        Check.dayFault(ONE, 1, "open a ^step;");
        Check.dayFault(ONE, 2, "mend ^wind;");
        Check.dayFault(ONE, 2, "step;open ^aa;");
        Check.dayFault(ONE, 1, "open ^aaaaaaaaa;");
        String forty = "step;".repeat(40);
        for (String deed : new String[] {"turn", "shut", "open", "mend", "step"}) {
            Check.dayFault(ONE, 5, forty + "^" + deed + ";");
        }
        Check.dayFault(ONE, 1, forty + "^rest;");
        Check.dayFault(ONE, 1, forty + "^;");
        WakePark x = new WakePark();
        Check.same("no turbines", Check.readDay(x, "step;shut a;"), 2 + 16 * 10);
        Check.same("step", Check.readDay(x, "step;"), 0);
    }
}
