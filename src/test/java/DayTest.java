/** Promise 4, sentence by sentence: a DAY, its bounds and its FAULTS. */
public final class DayTest {
    private static final String TWO = "turbine a plain of 1 at 0;turbine wind plain of 2 at 1;";
    private static final String[][] FORMS = {{"turn", "a", "0", ";"}, {"turn", "wind", "4", ";"}, {"shut", "a", ";"},
        {"open", "wind", ";"}, {"mend", "a", ";"}, {"step", ";"}};
    private static final String[] KEPT = {"turbine", "of", "at", "cable", "to", "home", "holds", "blows", "from", "price",
        "wakes", "wears", "slack", "gives", "turn", "shut", "open", "mend", "step", "plain", "tall", "old", "small",
        "not", "and", "or"};

    public static void main(String[] args) {
        anyNumberOfLines();
        fortyLines();
        everyToken();
        anglesOfLines();
        turbinesOfLines();
        placesOfFaults();
        theFirstAndTheLeast();
        aDayIsTheDay();
        allStays();
        Check.end();
    }

    private static void anyNumberOfLines() {
        Check.says(4, "DAY: any number of");
        WakePark x = Check.told(TWO);
        Check.same("no sign", x.day(), 0);
        Check.same("no line", x.count(9), 0);
        Check.same("blanks alone", Check.readDay(x, " \n ".repeat(300)), 0);
        Check.same("no line", x.count(9), 0);
        StringBuilder all = new StringBuilder();
        int lines = 0;
        for (String[] form : FORMS) {
            Check.same("one line", Check.readDay(x, String.join(" ", form)), 0);
            Check.same("one", x.count(9), 1);
            all.append(String.join("\n", form));
            lines++;
            Check.same("lines", Check.readDay(x, all.toString()), 0);
            Check.same("as many", x.count(9), lines);
        }
        Check.same("without blanks", Check.readDay(x, "turn a0;step;shut a;"), 0);
        Check.same("three", x.count(9), 3);
    }

    private static void fortyLines() {
        Check.says(4, "40 lines at most");
        WakePark x = Check.told(TWO);
        for (int lines : new int[] {1, 39, 40}) {
            Check.same(lines + " lines", Check.readDay(x, "step;".repeat(lines)), 0);
            Check.same("there are", x.count(9), lines);
        }
        Check.same("40 long ones", Check.readDay(x, "turn a 1; ".repeat(40)), 0);
        Check.same("there are", x.count(9), 40);
        Check.says(4, "the first word of a 41st line of a DAY");
        String forty = "step;".repeat(40);
        for (String deed : new String[] {"turn", "shut", "open", "mend", "step"}) {
            Check.dayFault(TWO, 5, forty + "^" + deed);
            Check.dayFault(TWO, 5, forty + " ^" + deed + " a 1;");
        }
        Check.dayFault(TWO, 5, "shut a;".repeat(40) + "\n^step;step;");
        Check.same("of the 100th, it is the 41st", Check.readDay(x, "step;".repeat(100)), 5 + 16 * 200);
        Check.same("40 stay", x.count(9), 40);
    }

    private static void everyToken() {
        Check.says(4, "1 it is none, or can't stand there");
        for (String[] form : FORMS) {
            StringBuilder text = new StringBuilder("step;");
            for (int k = 0; k < form.length; k++) {
                if (k > 0) {
                    Check.dayFault(TWO, 1, text + "^");
                    text.append(' ');
                }
                Check.dayFault(TWO, 1, text + "^?");
                Check.dayFault(TWO, 1, text + "^)");
                Check.dayFault(TWO, 1, text + "^gives");
                Check.dayFault(TWO, 1, text + "^12345");
                Check.dayFault(TWO, 1, text + "^abcdefghi");
                text.append(form[k]);
            }
        }
        for (String word : new String[] {"turbine", "cable", "blows", "from", "price", "wakes", "wears", "slack", "gives", "of",
            "at", "to", "home", "holds", "plain", "not", "and", "or", "a", "wind", "7", ";", "(", "turns", "steps"}) {
            Check.dayFault(TWO, 1, "^" + word + " a 1;");
        }
        Check.dayFault(TWO, 1, "step ^a;");
        Check.dayFault(TWO, 1, "step ^1;");
        Check.dayFault(TWO, 1, "shut a ^1;");
        Check.dayFault(TWO, 1, "turn a 1 ^1;");
        Check.dayFault(TWO, 1, "turn a^;");
        Check.dayFault(TWO, 1, "turn ^1 a;");
    }

    private static void anglesOfLines() {
        Check.says(4, "(a TURBINE to 0 to 4; a TURBINE)");
        for (int angle = 0; angle <= 4; angle++) {
            WakePark x = Check.told(TWO + "cable a home holds 99;price 11;wears 99;gives 90 - 20 * angle;");
            Check.same("turn " + angle, Check.readDay(x, "turn a " + angle + ";step;"), 0);
            // 90, 70, 50, of which all, nine tenths, six tenths are left.
            int[] due = {30, 63, 90, 63, 30};
            Check.same("sold", x.judged(2), due[angle]);
        }
        for (int turbine = 0; turbine < 6; turbine++) {
            WakePark x = Check.told("turbine a plain of 1 at 0;turbine b plain of 1 at 1;turbine c plain of 1 at 2;"
                + "turbine d plain of 1 at 3;turbine e plain of 1 at 4;turbine f plain of 1 at 5;cable a home holds 200;"
                + "cable b home holds 200;cable c home holds 200;cable d home holds 200;cable e home holds 200;"
                + "cable f home holds 200;price 11;");
            char name = (char) ('a' + turbine);
            for (int angle = 0; angle <= 4; angle++) {
                Check.same("turn " + name + " " + angle, Check.readDay(x, "turn " + name + " " + angle + ";step;"), 0);
                Check.same("sold", x.judged(2), angle == 2 ? 60 : angle % 2 == 1 ? 59 : 56);
            }
            Check.same("shut " + name, Check.readDay(x, "shut " + name + ";step;shut " + name + ";"), 0);
            Check.same("can't be", x.judged(0), 2);
            Check.same("sold", x.judged(2), 50);
        }
        Check.dayFault(TWO, 4, "turn a ^5;");
        Check.dayFault(TWO, 4, "turn a ^9999;");
        Check.dayFault(TWO, 1, "turn a ^-1;");
        WakePark x = Check.told(TWO);
        Check.same("0004 is 4", Check.readDay(x, "turn a 0004;"), 0);
    }

    private static void turbinesOfLines() {
        Check.says(4, "2 a NAME of no TURBINE told");
        for (String deed : new String[] {"turn", "shut", "open", "mend"}) {
            Check.dayFault(TWO, 2, deed + " ^b 1;");
            Check.dayFault(TWO, 2, deed + " ^aa;");
            Check.dayFault(TWO, 2, "step;" + deed + " ^night;");
            Check.dayFault("", 2, deed + " ^a;");
        }
        Check.says(4, "A NAME is another WORD than");
        for (String kept : KEPT) {
            for (String deed : new String[] {"turn", "shut", "open", "mend"}) {
                Check.dayFault(TWO, 1, deed + " ^" + kept + ";");
            }
        }
    }

    private static void placesOfFaults() {
        Check.says(4, "kind + 16 * the place (from 0) of a token, the end being one at the text's length");
        WakePark x = Check.told(TWO);
        Check.same("place 0", Check.readDay(x, "?"), 1);
        Check.same("place 999", Check.readDay(x, " ".repeat(999) + ";"), 1 + 16 * 999);
        Check.same("the end at 4", Check.readDay(x, "step"), 1 + 16 * 4);
        Check.same("the end at 1000", Check.readDay(x, "step" + " ".repeat(996)), 1 + 16 * 1000);
        Check.same("the end at 1000", Check.readDay(x, " ".repeat(994) + "turn a"), 1 + 16 * 1000);
    }

    private static void theFirstAndTheLeast() {
        Check.says(4, "of the first token from the left that is wrong the least");
        Check.dayFault(TWO, 2, "turn ^b 5;?");
        Check.dayFault(TWO, 4, "turn a ^5 ?");
        Check.dayFault(TWO, 1, "^?turn b 5;");
        Check.dayFault(TWO, 2, "shut ^b;" + "step;".repeat(40));
        String forty = "step;".repeat(40);
        for (String none : new String[] {"?", ";", "rest", "turbine", "12345", "7", "a"}) {
            Check.dayFault(TWO, 1, forty + "^" + none);
        }
    }

    private static void aDayIsTheDay() {
        Check.says(4, "A DAY is the DAY.");
        WakePark x = Check.told(TWO + "cable a home holds 99;price 11;");
        x.step();
        Check.same("day", Check.readDay(x, "step;step;step;"), 0);
        Check.same("sold", x.judged(2), 30);
        Check.same("another", Check.readDay(x, "shut a;shut a;step;"), 0);
        Check.same("lines", x.count(9), 3);
        Check.same("can't be", x.judged(0), 1);
        Check.same("sold", x.judged(2), 0);
        Check.same("a shorter one", Check.readDay(x, "step;"), 0);
        Check.same("one line", x.count(9), 1);
        Check.same("sold", x.judged(2), 10);
        Check.same("an empty one", Check.readDay(x, ""), 0);
        Check.same("no line", x.count(9), 0);
        Check.same("sold", x.judged(2), 0);
        Check.same("it is told, not done", x.count(1), 1);
        Check.same("it can't be undone", x.count(11), 1);
        Check.same("nothing is sold", x.count(6), 10);
        Check.says(4, "The TAPE is read as a DAY");
        WakePark y = new WakePark();
        Check.same("without turbines, too", Check.readDay(y, "step;step;"), 0);
        Check.same("two lines", y.count(9), 2);
    }

    private static void allStays() {
        Check.says(4, "The TAPE is read as a DAY, likewise.");
        String begun = "shut b;step;open c;turn d 0;";
        int at = begun.length();
        Twin.leavesBut("kind 1", x -> Check.readDay(x, begun + "?"), 1 + 16 * at);
        Twin.leavesBut("kind 1 at the end", x -> Check.readDay(x, begun + "step"), 1 + 16 * (at + 4));
        Twin.leavesBut("kind 2", x -> Check.readDay(x, begun + "shut q;"), 2 + 16 * (at + 5));
        Twin.leavesBut("kind 4", x -> Check.readDay(x, begun + "turn a 5;"), 4 + 16 * (at + 7));
        Twin.leavesBut("kind 5", x -> Check.readDay(x, begun + "step;".repeat(37)), 5 + 16 * (at + 36 * 5));
    }
}
