/** Promise 3, sentence by sentence: a PARK, its bounds, its FAULTS, and what it begins anew. */
public final class ParkTest {
    private static final String ONE = "turbine a plain of 1 at 0;";
    /** b has a cable, a has none. */
    private static final String TWO = ONE + "turbine b plain of 1 at 1;cable b home holds 9;";
    private static final String FIVE = ONE + "turbine b plain of 1 at 1;turbine c plain of 1 at 2;turbine d plain of 1 at 3;"
        + "turbine e plain of 1 at 4;";
    private static final String SIX = FIVE + "turbine f plain of 1 at 5;";
    private static final String[] LISTS = {"blows", "from", "price"};
    private static final String[] KEPT = {"turbine", "of", "at", "cable", "to", "home", "holds", "blows", "from", "price",
        "wakes", "wears", "slack", "gives", "turn", "shut", "open", "mend", "step", "plain", "tall", "old", "small",
        "not", "and", "or"};
    private static final String[][] FORMS = {{"turbine", "c", "tall", "of", "2", "at", "35", ";"},
        {"cable", "a", "home", "holds", "200", ";"}, {"cable", "a", "to", "b", "holds", "1", ";"}, {"blows", "0", ";"},
        {"blows", "1", "2", ";"}, {"from", "3", ";"}, {"price", "20", ";"}, {"wakes", "1", "2", "3", ";"}, {"wears", "1", ";"},
        {"slack", "12", ";"}, {"gives", "wind", ";"}};

    public static void main(String[] args) {
        anyNumberOfLines();
        everyToken();
        sixTurbines();
        kindsOwnersCells();
        cablesOfWhom();
        cablesToWhom();
        cablesHold();
        lists();
        listsAgainAndAgain();
        wakes();
        wears();
        slack();
        onceEach();
        names();
        toldAlready();
        notAsTold();
        placesOfFaults();
        theFirstTokenThatIsWrong();
        theLeastKind();
        theParkFromThenOn();
        oneParkBehindAnother();
        allStays();
        Check.end();
    }

    private static void anyNumberOfLines() {
        Check.says(3, "PARK: any number of");
        Check.same("no sign", new WakePark().park(), 0);
        Check.told(" ");
        Check.told("\n");
        Check.told(" ".repeat(1000));
        for (String[] form : FORMS) {
            Check.told(TWO + String.join(" ", form));
        }
        WakePark x = Check.told("gives worn;slack 2;wears 3;wakes 4 5 6;price 7;from 1;blows 9;" + SIX + "cable f home holds 1;"
            + "cable e to f holds 2;cable a home holds 3;cable d to a holds 4;cable c to d holds 5;cable b to e holds 6;");
        int[] to = {6, 4, 3, 0, 5, 6};
        int[] holds = {3, 6, 5, 4, 2, 1};
        for (int i = 0; i < 6; i++) {
            Check.same("goes to", x.turbine(i, 7), to[i]);
            Check.same("holds", x.turbine(i, 8), holds[i]);
        }
        String full = " ".repeat(1000 - ONE.length()) + ONE;
        Check.same("a text of 1000 signs", Check.told(full).count(0), 1);
    }

    private static void everyToken() {
        Check.says(3, "1 it is none, or can't stand there");
        for (String[] form : FORMS) {
            StringBuilder text = new StringBuilder(TWO);
            for (int k = 0; k < form.length; k++) {
                if (k > 0) {
                    // What ends here lacks its next token: the end can't stand there.
                    Check.parkFault(1, text + "^");
                    text.append(' ');
                }
                Check.parkFault(1, text + "^?");
                Check.parkFault(1, text + "^)");
                Check.parkFault(1, text + "^step");
                boolean digits = form[k].charAt(0) >= '0' && form[k].charAt(0) <= '9';
                Check.parkFault(1, text + (digits ? "^zz" : form[k].equals(";") ? "^at" : "^,7"));
                text.append(form[k]);
            }
        }
        for (String word : new String[] {"turn", "shut", "open", "mend", "step", "of", "at", "to", "home", "holds", "plain", "not",
            "wind", "night", "a", "7", ";", "("}) {
            Check.parkFault(1, "^" + word);
            Check.parkFault(1, TWO + "^" + word);
        }
        Check.parkFault(1, "wakes 1 2 3 ^4;");
        Check.parkFault(1, "wears 1 ^1;");
        Check.parkFault(1, "slack 1 ^1;");
        Check.parkFault(1, "turbine ^5 plain of 1 at 2;");
        Check.parkFault(1, ONE + "cable ^5 home holds 2;");
        Check.parkFault(1, TWO + "cable a to ^5 holds 2;");
        Check.parkFault(1, TWO + "cable a to ^home holds 2;");
        Check.parkFault(1, TWO + "cable a home ^home holds 2;");
    }

    private static void sixTurbines() {
        Check.says(3, "turbine: 6 at most, numbered as told");
        Check.same("five", Check.told(FIVE).count(0), 5);
        WakePark x = Check.told(SIX);
        Check.same("six", x.count(0), 6);
        for (int i = 0; i < 6; i++) {
            Check.same("as told", x.turbine(i, 2), i);
        }
        x = Check.told("turbine z old of 2 at 30;blows 1;turbine a small of 1 at 3;");
        Check.same("z is 0", x.turbine(0, 2), 30);
        Check.same("a is 1", x.turbine(1, 2), 3);
        Check.says(3, "5 one too many: the word turbine of a seventh");
        Check.parkFault(5, SIX + "^turbine g plain of 1 at 6;");
        Check.parkFault(5, SIX + "blows 1;^turbine a plain of 1 at 0;");
        Check.parkFault(5, SIX + "^turbine");
    }

    private static void kindsOwnersCells() {
        Check.says(3, "KIND: plain, tall, old, small");
        String[] kinds = {"plain", "tall", "old", "small"};
        for (int kind = 0; kind < 4; kind++) {
            Check.same(kinds[kind], Check.told("turbine a " + kinds[kind] + " of 1 at 0;").turbine(0, 0), kind);
        }
        for (String other : new String[] {"b", "of", "plai", "plains", "talls", "wind", "not", "home"}) {
            Check.parkFault(1, "turbine a ^" + other + " of 1 at 0;");
        }
        Check.says(3, "of an owner 1 or 2");
        Check.parkFault(4, "turbine a plain of ^0 at 0;");
        Check.same("1", Check.told("turbine a plain of 1 at 0;").turbine(0, 1), 1);
        Check.same("2", Check.told("turbine a plain of 2 at 0;").turbine(0, 1), 2);
        Check.parkFault(4, "turbine a plain of ^3 at 0;");
        Check.parkFault(4, "turbine a plain of ^9999 at 0;");
        Check.says(3, "at a CELL 0 to 35");
        for (int cell = 0; cell <= 35; cell++) {
            Check.same("cell", Check.told("turbine a plain of 1 at " + cell + ";").turbine(0, 2), cell);
        }
        Check.parkFault(4, "turbine a plain of 1 at ^36;");
        Check.parkFault(4, "turbine a plain of 1 at ^9999;");
        Check.says(3, "in which none stands yet");
        Check.parkFault(3, ONE + "turbine b plain of 1 at ^0;");
        Check.parkFault(3, SIX.replace("at 5", "at ^3"));
        Check.parkFault(3, "turbine a plain of 1 at 35;turbine b plain of 2 at 34;turbine c plain of 2 at ^0035;");
        Check.told(ONE + "turbine b plain of 1 at 35;turbine c plain of 1 at 1;");
    }

    private static void cablesOfWhom() {
        Check.says(3, "2 a NAME of no TURBINE told");
        Check.parkFault(2, "cable ^a home holds 1;" + ONE);
        Check.parkFault(2, ONE + "cable ^b home holds 1;");
        Check.parkFault(2, ONE + "cable ^aa home holds 1;");
        Check.parkFault(2, ONE + "cable ^wind home holds 1;");
        Check.parkFault(2, TWO + "cable a to ^c holds 1;");
        Check.parkFault(2, TWO + "cable a to ^c holds 1;turbine c plain of 1 at 9;cable c home holds 1;");
        Check.says(3, "cable: of a TURBINE without one");
        Check.parkFault(3, ONE + "cable a home holds 1;cable ^a home holds 1;");
        Check.parkFault(3, TWO + "cable ^b to a holds 1;");
        Check.parkFault(3, TWO + "cable a home holds 1;blows 1;cable ^b to a holds 1;");
        Check.parkFault(3, TWO + "cable ^b to b holds 1;");
        Check.told(TWO + "cable a home holds 1;");
    }

    private static void cablesToWhom() {
        Check.says(3, "to home, or to another one that has one already");
        Check.same("home is 6", Check.told(TWO).turbine(1, 7), 6);
        Check.same("to b", Check.told(TWO + "cable a to b holds 1;").turbine(0, 7), 1);
        WakePark x = Check.told(SIX + "cable f home holds 1;cable e to f holds 1;cable d to e holds 1;cable c to d holds 1;"
            + "cable b to c holds 1;cable a to b holds 1;");
        for (int i = 0; i < 6; i++) {
            Check.same("a line of six", x.turbine(i, 7), i + 1);
        }
        Check.says(3, "the one that a cable goes to without a cable, or itself");
        Check.parkFault(2, FIVE + "cable a to ^b holds 1;");
        Check.parkFault(2, FIVE + "cable a home holds 1;cable b to ^c holds 1;cable c home holds 1;");
        Check.parkFault(2, ONE + "cable a to ^a holds 1;");
        Check.parkFault(2, TWO + "cable a to ^a holds 1;");
    }

    private static void cablesHold() {
        Check.says(3, "holds 1 to 200");
        Check.parkFault(4, ONE + "cable a home holds ^0;");
        Check.same("1", Check.told(ONE + "cable a home holds 1;").turbine(0, 8), 1);
        Check.same("200", Check.told(ONE + "cable a home holds 200;").turbine(0, 8), 200);
        Check.parkFault(4, ONE + "cable a home holds ^201;");
        Check.parkFault(4, TWO + "cable a to b holds ^0;");
        Check.same("1", Check.told(TWO + "cable a to b holds 1;").turbine(0, 8), 1);
        Check.same("200", Check.told(TWO + "cable a to b holds 200;").turbine(0, 8), 200);
        Check.parkFault(4, TWO + "cable a to b holds ^201;");
        // The cable that is not told to its end is not there.
        WakePark x = Check.told(ONE);
        Check.same("faulty", Check.readPark(x, ONE + "cable a home holds 201;"), 4 + 16 * (ONE.length() + 19));
        Check.same("no cable", x.turbine(0, 7), -1);
    }

    private static void lists() {
        Check.says(3, "blows 0 to 30, from 0 to 3 (north, east, south, west), price 0 to 20");
        int[] most = {30, 3, 20};
        for (int i = 0; i < 3; i++) {
            Check.same("0", Check.told(LISTS[i] + " 0;").count(2 + i), i == 2 ? -10 : 0);
            Check.same("most", Check.told(LISTS[i] + " " + most[i] + ";").count(2 + i), i == 2 ? 10 : most[i]);
            Check.parkFault(4, LISTS[i] + " ^" + (most[i] + 1) + ";");
            Check.parkFault(4, LISTS[i] + " 0 " + most[i] + " ^" + (most[i] + 1) + ";");
            Check.parkFault(4, LISTS[i] + " ^9999;");
        }
        Check.says(3, "1 to 8 each");
        for (String list : LISTS) {
            Check.parkFault(1, list + " ^;");
            StringBuilder text = new StringBuilder(list);
            for (int n = 1; n <= 8; n++) {
                text.append(" ").append(n % 4);
                Check.told(text + ";");
            }
            Check.says(3, "a ninth NUMBER of blows, from, price");
            Check.parkFault(5, text + " ^0;");
            Check.parkFault(5, text + " ^3 1;");
            Check.parkFault(5, text + " ^0");
        }
        Check.says(3, "(10; 0; 10)");
        WakePark x = Check.told(ONE);
        for (int step = 0; step < 10; step++) {
            Check.same("blows 10", x.count(2), 10);
            Check.same("from 0", x.count(3), 0);
            Check.same("price 10", x.count(4), 0);
            x.step();
        }
    }

    private static void listsAgainAndAgain() {
        Check.says(3, "of one step behind another, 1 to 8 each, again and again");
        int[] told = {3, 0, 2, 1, 1, 3, 0, 2};
        for (int size = 1; size <= 8; size++) {
            StringBuilder numbers = new StringBuilder();
            for (int i = 0; i < size; i++) {
                numbers.append(" ").append(told[i]);
            }
            WakePark x = Check.told("blows" + numbers + ";from" + numbers + ";price" + numbers + ";");
            for (int step = 0; step < 26; step++) {
                int due = told[step % size];
                Check.same("blows of " + size + " at " + step, x.count(2), due);
                Check.same("from of " + size + " at " + step, x.count(3), due);
                Check.same("price of " + size + " at " + step, x.count(4), due - 10);
                x.step();
            }
        }
        WakePark x = Check.told("blows 1 2;from 0 1 2;price 10 11 12 13 14;");
        for (int step = 0; step < 31; step++) {
            Check.same("each by itself", x.count(2) * 100 + x.count(3) * 10 + x.count(4),
                (step % 2 + 1) * 100 + step % 3 * 10 + step % 5);
            x.step();
        }
    }

    private static void wakes() {
        Check.says(3, "wakes: what is taken 1, 2, 3 CELLS behind, 0 to 9 tenths (5 3 1)");
        String column = "turbine a plain of 1 at 0;turbine b plain of 1 at 6;turbine c plain of 1 at 12;"
            + "turbine d plain of 1 at 18;";
        int[][] told = {{5, 3, 1}, {0, 0, 0}, {9, 9, 9}, {0, 9, 0}, {9, 0, 9}, {1, 2, 3}};
        for (int[] row : told) {
            WakePark x = Check.told(column + "wakes " + row[0] + " " + row[1] + " " + row[2] + ";");
            for (int off = 1; off <= 3; off++) {
                Check.same("off " + off, x.takes(0, off), row[off - 1]);
            }
        }
        WakePark x = Check.told(column);
        for (int off = 1; off <= 3; off++) {
            Check.same("without wakes", x.takes(0, off), told[0][off - 1]);
        }
        Check.parkFault(4, "wakes ^10 0 0;");
        Check.parkFault(4, "wakes 9 ^10 0;");
        Check.parkFault(4, "wakes 9 9 ^10;");
        Check.parkFault(1, "wakes 9 9^;");
        Check.parkFault(1, "wakes 9 9 9 ^9;");
    }

    private static void wears() {
        Check.says(3, "wears 1 to 99 (20)");
        Check.parkFault(4, "wears ^0;");
        Check.parkFault(4, "wears ^100;");
        for (int wears : new int[] {1, 2, 50, 98, 99}) {
            WakePark x = Check.told(ONE + "wears " + wears + ";");
            x.turn(0, 1);
            Check.same("wears " + wears, x.breaks(0), wears);
        }
        WakePark x = Check.told(ONE);
        x.turn(0, 1);
        Check.same("without wears", x.breaks(0), 20);
    }

    private static void slack() {
        Check.says(3, "slack 1 to 12 (6)");
        Check.parkFault(4, "slack ^0;");
        Check.parkFault(4, "slack ^13;");
        for (int slack = 0; slack <= 12; slack++) {
            WakePark x = Check.told(ONE + "wears 1;" + (slack == 0 ? "" : "slack " + slack + ";"));
            int each = slack == 0 ? 6 : slack;
            x.turn(0, 1);
            for (int step = 1; step <= 25; step++) {
                x.step();
                Check.same("slack " + slack + " at " + step, x.mend(0) ? 1 : 0, step % each == 0 ? 1 : 0);
            }
        }
    }

    private static void onceEach() {
        Check.says(3, "blows, from, price, wakes, wears, slack, gives: once each.");
        String[] lines = {"blows 1;", "from 1;", "price 1;", "wakes 1 1 1;", "wears 1;", "slack 1;", "gives 1;"};
        StringBuilder all = new StringBuilder();
        for (String line : lines) {
            String word = line.substring(0, line.indexOf(' '));
            Check.told(line);
            Check.parkFault(3, line + "^" + line);
            Check.parkFault(3, line + ONE + "^" + word);
            Check.parkFault(3, line + ONE + "cable a home holds 3;^" + word + " ?");
            WakePark x = Check.told(line);
            Check.same("in another text", Check.readPark(x, line), 0);
            all.append(line);
        }
        Check.told(all.toString());
        for (String line : lines) {
            Check.parkFault(3, all + "^" + line);
        }
        WakePark x = new WakePark();
        Check.same("faulty", Check.readPark(x, all + "?"), 1 + 16 * all.length());
        Check.same("after a faulty one", Check.readPark(x, all.toString()), 0);
    }

    private static void names() {
        Check.says(3, "A NAME is another WORD than");
        for (String kept : KEPT) {
            Check.parkFault(1, "turbine ^" + kept + " plain of 1 at 2;");
            Check.parkFault(1, ONE + "cable ^" + kept + " home holds 2;");
            Check.parkFault(1, TWO + "cable a to ^" + kept + " holds 2;");
        }
        for (String free : new String[] {"wind", "worn", "angle", "night", "e", "n", "day", "park", "ofs", "tal", "turbines", "ste",
            "steps", "no", "nota", "an", "o", "ora", "hom"}) {
            Check.told("turbine " + free + " plain of 1 at 2;cable " + free + " home holds 2;");
        }
        Check.says(3, "no two are alike");
        Check.parkFault(3, ONE + "turbine ^a plain of 1 at 2;");
        Check.parkFault(3, ONE + "turbine b plain of 1 at 2;turbine c plain of 1 at 3;turbine ^b tall of 2 at 4;");
        Check.parkFault(3, SIX.replace("turbine f", "turbine ^a"));
        Check.told(ONE + "turbine aa plain of 1 at 2;turbine aaa plain of 1 at 3;");
    }

    private static void toldAlready() {
        Check.says(3, "3 a NAME told already; a CELL where one stands; a TURBINE that has a cable already; "
            + "blows, from, price, wakes, wears, slack, gives a second time");
        Check.parkFault(3, TWO + "turbine ^b tall of 2 at 35;");
        Check.parkFault(3, TWO + "turbine c tall of 2 at ^1;");
        Check.parkFault(3, TWO + "cable ^b home holds 3;");
        Check.parkFault(3, "blows 3 4;" + TWO + "^blows 3 4;");
        Check.parkFault(3, "from 0;" + TWO + "^from 0;");
        Check.parkFault(3, "price 3;" + TWO + "^price 3;");
        Check.parkFault(3, "wakes 5 3 1;" + TWO + "^wakes 5 3 1;");
        Check.parkFault(3, "wears 20;" + TWO + "^wears 20;");
        Check.parkFault(3, "slack 6;" + TWO + "^slack 6;");
        Check.parkFault(3, "gives wind;" + TWO + "^gives wind;");
        WakePark x = Check.told(TWO);
        Check.same("what was told in another text is not told yet", Check.readPark(x, TWO + "blows 1;"), 0);
        Check.same("what was told in a faulty text neither", Check.readPark(x, TWO + "blows 1;?"), 1 + 16 * (TWO.length() + 8));
        Check.same("now", Check.readPark(x, TWO + "blows 1;"), 0);
    }

    private static void notAsTold() {
        Check.says(3, "4 a NUMBER that is not as told");
        String[] bounds = {"turbine c plain of 1-2 at 3;", "turbine c plain of 1 at 2-35;", "cable a home holds 1-200;",
            "cable a to b holds 1-200;", "blows 0-30;", "blows 1 0-30;", "from 0-3;", "from 3 0-3;", "price 0-20;",
            "price 5 5 0-20;", "wakes 0-9 1 1;", "wakes 1 0-9 1;", "wakes 1 1 0-9;", "wears 1-99;", "slack 1-12;"};
        for (String bound : bounds) {
            int dash = bound.indexOf('-');
            int from = bound.lastIndexOf(' ', dash) + 1;
            int to = dash + 1;
            while (bound.charAt(to) >= '0' && bound.charAt(to) <= '9') {
                to++;
            }
            int low = Integer.parseInt(bound.substring(from, dash));
            int high = Integer.parseInt(bound.substring(dash + 1, to));
            String ahead = TWO + bound.substring(0, from);
            String behind = bound.substring(to);
            Check.told(ahead + low + behind);
            Check.told(ahead + high + behind);
            Check.parkFault(4, ahead + "^" + (high + 1) + behind);
            Check.parkFault(4, ahead + "^9999" + behind);
            if (low == 1) {
                Check.parkFault(4, ahead + "^0" + behind);
            }
        }
        Check.told("gives 9999 + 0;");
    }

    private static void placesOfFaults() {
        Check.says(3, "kind + 16 * the place (from 0) of a token");
        Check.same("place 0", Check.readPark(new WakePark(), "?"), 1);
        Check.same("place 1", Check.readPark(new WakePark(), " ?"), 17);
        Check.same("place 999", Check.readPark(new WakePark(), " ".repeat(999) + "?"), 1 + 16 * 999);
        Check.same("blanks count", Check.readPark(new WakePark(), "\n\n blows \n 31;"), 4 + 16 * 11);
        Check.same("kind 2", Check.readPark(new WakePark(), "cable a"), 2 + 16 * 6);
        Check.says(3, "the end being one at the text's length");
        Check.parkFault(1, "turbine^");
        Check.parkFault(1, "turbine ^");
        Check.parkFault(1, "turbine \n  ^");
        Check.parkFault(1, "gives 1 +^");
        Check.parkFault(1, "gives (1^");
        Check.parkFault(1, "blows 1 2 3 4 5 6 7 8^");
        Check.same("at 1000", Check.readPark(new WakePark(), " ".repeat(992) + "wears 10"), 1 + 16 * 1000);
        Check.same("blanks at the end", Check.readPark(new WakePark(), "wears 10" + " ".repeat(992)), 1 + 16 * 1000);
    }

    private static void theFirstTokenThatIsWrong() {
        Check.says(3, "of the first token from the left that is wrong");
        Check.parkFault(4, "blows ^31;?");
        Check.parkFault(1, "^?blows 31;");
        Check.parkFault(4, "turbine a plain of ^3 at 36;");
        Check.parkFault(3, ONE + "turbine ^a plain of 3 at 0;");
        Check.parkFault(1, ONE + "turbine b ^zz of 3 at 0;");
        Check.parkFault(2, ONE + "cable ^b to c holds 0;");
        Check.parkFault(3, TWO + "cable ^b to b holds 0;");
        Check.parkFault(2, TWO + "cable a to ^a holds 0;");
        Check.parkFault(4, "wakes 1 ^10 99;");
        Check.parkFault(3, "blows 1;^blows 31;");
        Check.parkFault(5, SIX + "^turbine a plain of 3 at 0;");
        Check.parkFault(1, "gives 1 ^? 2;blows 31;");
    }

    private static void theLeastKind() {
        Check.says(3, "that is wrong the least");
        for (String list : LISTS) {
            Check.parkFault(4, list + " 1 2 3 0 1 2 3 0 ^31;");
            Check.parkFault(1, list + " 1 2 3 0 1 2 3 0 ^00000;");
            Check.parkFault(1, list + " 1 2 3 0 1 2 3 0 ^a;");
        }
        Check.parkFault(1, SIX + "^turbines;");
        Check.parkFault(1, "gives (((((^?)))));");
        Check.parkFault(1, "gives (((((^))))));");
        Check.parkFault(1, "gives not not not not not ^and;");
        Check.parkFault(1, "gives (((((^");
    }

    private static void theParkFromThenOn() {
        String sea = "turbine a plain of 1 at 0;turbine b old of 2 at 6;cable a home holds 9;price 20;wears 2;slack 1;gives 50;"
            + "blows 3;from 2;wakes 1 1 1;";
        Check.says(3, "Without a FAULT a PARK is the PARK from then on: step 0");
        WakePark x = lived(sea);
        Check.same("step", x.count(1), 0);
        Check.same("of the new one", x.count(0), 3);
        Check.says(3, "all TURBINES turned straight (2), open, whole, not worn, nothing sold");
        for (int i = 0; i < 3; i++) {
            Check.same("straight", x.turbine(i, 3), 2);
            Check.same("open", x.turbine(i, 4), 1);
            Check.same("whole", x.turbine(i, 5), 0);
            Check.same("not worn", x.turbine(i, 6), 0);
            Check.same("no cable of the old one", x.turbine(i, 7), -1);
            Check.same("holds nothing", x.turbine(i, 8), 0);
        }
        Check.same("open", x.count(7), 7);
        Check.same("whole", x.count(8), 0);
        Check.same("nothing sold", x.count(6), 0);
        Check.says(3, "no DAY, nothing SEEN, nothing can be undone, no MARK is there");
        Check.same("no DAY", x.count(9), 0);
        Check.same("nothing judged", x.judged(2), 0);
        Check.same("nothing SEEN", x.count(10), 0);
        Check.same("all winds", x.winds(0), 124);
        Check.same("nothing can be undone", x.count(11), 0);
        Check.isNot("undo", x.undo());
        for (int mark = 0; mark < 4; mark++) {
            Check.isNot("mark " + mark, x.mark(mark, true));
        }
        Check.says(3, "Without gives: wind.");
        Check.same("what was told before counts no more: blows", x.count(2), 10);
        Check.same("from", x.count(3), 0);
        Check.same("price", x.count(4), 0);
        Check.same("gives", x.power(0), 10);
        x.turn(0, 1);
        Check.same("wears", x.breaks(0), 20);
        Check.says(3, "Without a FAULT a PARK is the PARK from then on");
        x = lived(sea);
        Check.same("an empty one, too", x.park(), 0);
        Check.same("no turbines", x.count(0), 0);
        Check.same("none open", x.count(7), 0);
        Check.same("no name of the old one", Check.readDay(x, "shut a;"), 2 + 16 * 5);
        x = lived(sea);
        Check.same("by the new names", Check.readDay(x, "shut x;turn y 4;open z;"), 0);
        Check.same("not by the old ones", Check.readDay(x, "shut b;"), 2 + 16 * 5);
    }

    private static void oneParkBehindAnother() {
        Check.says(3, "Without a FAULT a PARK is the PARK from then on");
        String tied = TWO + "cable a to b holds 7;from 2;wakes 1 2 3;wears 9;slack 9;price 12;blows 20;gives 8;";
        WakePark x = new WakePark();
        for (int i = 0; i < 3; i++) {
            Check.same("with cables", Check.readPark(x, tied), 0);
            Check.same("home", x.home(), 9);
            Check.same("carried", x.carried(0), 7);
            Check.same("sold", x.step(), 18);
            Check.same("without", Check.readPark(x, "turbine q old of 2 at 0;turbine r old of 2 at 6;"), 0);
            for (int turbine = 0; turbine < 2; turbine++) {
                Check.same("no cable", x.turbine(turbine, 7), -1);
                Check.same("it holds nothing", x.turbine(turbine, 8), 0);
                Check.same("it carries nothing", x.carried(turbine), 0);
                Check.same("no hop", x.hops(turbine), 0);
            }
            Check.same("from the north, five tenths", x.wind(1), 5);
            Check.same("home", x.home(), 0);
            Check.same("wears 20 by two", x.breaks(1), 10);
        }
        // Twice the same kind of park, so that each is told where another one was.
        for (int i = 0; i < 4; i++) {
            Check.same("the same again", Check.readPark(x, tied), 0);
            Check.same("home", x.home(), 9);
            Check.same("dear", x.dear(), 1);
        }
        for (int i = 0; i < 3; i++) {
            Check.same("none", Check.readPark(x, ONE), 0);
            Check.same("holds", x.turbine(0, 8), 0);
            Check.same("from", x.count(3), 0);
        }
    }

    /** Of the park told first everything was done; then another one was read. */
    private static WakePark lived(String sea) {
        WakePark x = Check.told(sea);
        x.turn(0, 0);
        x.step();
        x.turn(1, 4);
        x.step();
        x.shut(0);
        x.see(1, 3);
        Check.readDay(x, "step;shut a;");
        for (int mark = 0; mark < 4; mark++) {
            x.mark(mark, false);
        }
        Check.is("something was sold", x.count(6) != 0 && x.count(8) != 0 && x.count(11) == 5);
        Check.same("another park",
            Check.readPark(x, "turbine x plain of 2 at 0;turbine y plain of 2 at 7;turbine z tall of 1 at 35;"), 0);
        return x;
    }

    private static void allStays() {
        Check.says(3, "The TAPE is read as a PARK: 0, or its FAULT (all stays then)");
        String begun = "turbine q old of 2 at 30;cable q home holds 7;blows 1;from 2;price 3;wakes 4 5 6;wears 7;slack 8;gives 9;";
        String[] faults = {"^1?", "cable ^2w home", "turbine ^3q plain", "turbine w plain of ^43", "gives (((((^5wind", "^1"};
        for (String fault : faults) {
            int at = fault.indexOf('^');
            String text = begun + fault.substring(0, at);
            int due = fault.charAt(at + 1) - '0' + 16 * text.length();
            if (fault.startsWith("gives")) {
                text = text.replace("gives 9;", "");
                due -= 16 * "gives 9;".length();
            }
            String whole = text + fault.substring(at + 2);
            if (fault.equals("^1")) {
                // The end of a line that lacks its end.
                whole = text.substring(0, text.length() - 1);
                due = 1 + 16 * whole.length();
            }
            String read = whole;
            Twin.leavesBut("park of " + read, x -> Check.readPark(x, read), due);
        }
        WakePark x = Check.told(ONE + "cable a home holds 3;");
        Check.same("faulty", Check.readPark(x, "turbine b plain of 1 at 3;?"), 1 + 16 * 26);
        Check.same("a is known by a day", Check.readDay(x, "shut a;"), 0);
        Check.same("b is not", Check.readDay(x, "shut b;"), 2 + 16 * 5);
        Check.same("home", x.home(), 3);
    }
}
