/** Promises 1 and 2 and the TOKENS, sentence by sentence: a new object, what comes on the TAPE, what is read off it. */
public final class TapeTest {
    private static final String BLANKS = " ".repeat(1000);

    public static void main(String[] args) {
        atFirstNothing();
        noneIsMinusOne();
        fiveHundredAndTwelveCalls();
        twentyFourSigns();
        theHighestByteFirst();
        othersAreLeftOut();
        beyondAThousand();
        howManyThereAre();
        whatReadsItTakesIt();
        asLongAsCanBe();
        blanksWhereOneLikes();
        wordsOfEightLetters();
        numbersOfFourDigits();
        theSigns();
        Check.end();
    }

    private static void atFirstNothing() {
        Check.says(1, "At first: nothing.");
        WakePark x = new WakePark();
        // Nothing was told: 10 blows, from the north, the price less 10 is 0.
        int[] due = {0, 0, 10, 0, 0, 0, 0, 0, 0, 0, 0, 0, 0};
        for (int what = 0; what < due.length; what++) {
            Check.same("count " + what, x.count(what), due[what]);
        }
        Check.same("turbine", x.turbine(0, 0), -2);
        Check.same("home", x.home(), 0);
        Check.same("judged 0", x.judged(0), -1);
        Check.same("judged 1", x.judged(1), -1);
        Check.same("judged 2", x.judged(2), 0);
        Check.same("winds", x.winds(0), 124);
        Check.isNot("undo", x.undo());
        for (int mark = 0; mark < 4; mark++) {
            Check.isNot("mark " + mark, x.mark(mark, true));
        }
        Check.same("an empty tape is a park", x.park(), 0);
        Check.same("an empty tape is a day", x.day(), 0);
        WakePark y = Check.told("turbine a plain of 1 at 0;blows 7;");
        y.step();
        Check.same("another one is nothing still", new WakePark().count(0) + new WakePark().count(1), 0);
    }

    private static void noneIsMinusOne() {
        Check.says(1, "`NONE = -1`: None.");
        Check.same("NONE", WakePark.NONE, -1);
    }

    private static void fiveHundredAndTwelveCalls() {
        Check.says(1, "An object is used for at most 512 calls after it has been made");
        WakePark x = new WakePark();
        for (int i = 0; i < 511; i++) {
            Check.same("step", x.step(), 0);
        }
        Check.same("the 512th", x.count(1), 511);
        WakePark y = Check.told("turbine a plain of 1 at 0;blows 1 2 3 4 5 6 7;");
        for (int i = 0; i < 500; i++) {
            y.step();
        }
        Check.same("the wind behind 500 steps", y.wind(0), 500 % 7 + 1);
    }

    private static void twentyFourSigns() {
        Check.says(2, "Up to 24 signs come behind the TAPE");
        WakePark x = new WakePark();
        Check.same("none", x.feed(0, 0, 0), 0);
        Check.same("one", x.feed(32, 0, 0), 1);
        long eight = Check.eight("        ", 0);
        Check.same("24", x.feed(eight, eight, eight), 25);
        Check.same("23", x.feed(eight, eight >>> 8, eight), 48);
        x = new WakePark();
        Check.feed(x, "turbine abcdefgh plain o");
        Check.feed(x, "f 2 at 35;");
        Check.same("it comes behind", x.park(), 0);
        Check.same("what was told first", x.turbine(0, 1), 2);
    }

    private static void theHighestByteFirst() {
        Check.says(2, "the bytes of a, b, c, of each the highest first");
        WakePark x = new WakePark();
        Check.same("feed", x.feed(Check.eight("blows 12", 0), Check.eight(";price 1", 0), Check.eight("3;from 2", 0)), 24);
        Check.same("feed", x.feed(';', 0, 0), 25);
        Check.same("park", x.park(), 0);
        Check.same("blows", x.count(2), 12);
        Check.same("price", x.count(4), 3);
        Check.same("from", x.count(3), 2);
        for (int place = 0; place < 8; place++) {
            x = new WakePark();
            Check.feed(x, "blows ");
            // A 1 in a's place, a 2 in b's, a semicolon in c's, wherever in it they stand.
            Check.same("one of each", x.feed((long) '1' << 8 * place, (long) '2' << 56 - 8 * place, (long) ';' << 8 * place), 9);
            Check.same("park", x.park(), 0);
            Check.same("12", x.count(2), 12);
        }
        x = new WakePark();
        Check.feed(x, "blows ");
        x.feed(((long) '2' << 56) + '7', ';', 0);
        Check.same("park", x.park(), 0);
        Check.same("27, not 72", x.count(2), 27);
    }

    private static void othersAreLeftOut() {
        Check.says(2, "others than 10 and 32 .. 126");
        for (int sign = 0; sign < 256; sign++) {
            int due = sign == 10 || sign >= 32 && sign <= 126 ? 1 : 0;
            for (int place = 0; place < 8; place++) {
                long eight = (long) sign << 8 * place;
                Check.same("in a, sign " + sign, new WakePark().feed(eight, 0, 0), due);
                Check.same("in b, sign " + sign, new WakePark().feed(0, eight, 0), due);
                Check.same("in c, sign " + sign, new WakePark().feed(0, 0, eight), due);
            }
        }
        WakePark x = new WakePark();
        Check.same("9, 11, 31, 127, 128, 255", x.feed(0x090B1F7F80FF0001L, -1, Long.MIN_VALUE), 0);
        Check.same("10, 32, 126", x.feed(0x0A207EL, 0, 0), 3);
        x = new WakePark();
        Check.feed(x, "bl" + (char) 9 + "ows 1" + (char) 0 + (char) 200 + "7;");
        Check.same("those round it come together", x.count(12), 9);
        Check.same("park", x.park(), 0);
        Check.same("blows", x.count(2), 17);
    }

    private static void beyondAThousand() {
        Check.says(2, "what is beyond 1,000, are left out");
        WakePark x = new WakePark();
        Check.same("998", Check.feed(x, BLANKS.substring(2)), 998);
        Check.same("999", x.feed(32, 0, 0), 999);
        Check.same("1000", x.feed(0, 32, 0), 1000);
        Check.same("one more", x.feed(0, 0, 32), 1000);
        long eight = Check.eight("        ", 0);
        Check.same("24 more", x.feed(eight, eight, eight), 1000);
        Check.same("count", x.count(12), 1000);
        x = new WakePark();
        Check.same("976", Check.feed(x, BLANKS.substring(24)), 976);
        Check.same("24 that just fit", x.feed(eight, eight, eight), 1000);
        x = new WakePark();
        Check.same("977", Check.feed(x, BLANKS.substring(23)), 977);
        Check.same("24 of which one does not", x.feed(eight, eight, eight), 1000);
        x = new WakePark();
        Check.feed(x, BLANKS.substring(8) + "blows 7;");
        Check.same("full", x.feed('(', 0, 0), 1000);
        Check.says(2, "The TAPE has at most 1,000 signs, 10 and 32 .. 126");
        Check.same("the first ones are kept", x.park(), 0);
        Check.same("blows", x.count(2), 7);
        x = new WakePark();
        Check.feed(x, BLANKS.substring(8) + "blows 7");
        Check.same("others take no room", x.feed(0x0102030405060708L, -1, 0), 999);
        Check.same("the last one", x.feed(Check.eight(";((((((", 0), 0, 0), 1000);
        Check.same("park", x.park(), 0);
        x = new WakePark();
        Check.feed(x, BLANKS.substring(7) + "blows 7;");
        Check.same("what did not fit is not there", x.park(), 1 + 16 * 1000);
    }

    private static void howManyThereAre() {
        Check.says(2, "how many there are");
        WakePark x = new WakePark();
        Check.same("two", x.feed('a', 'b', 0), 2);
        Check.same("three", x.feed(0, 0, 'c'), 3);
        Check.same("as many still", x.feed(0, 1, 2), 3);
        Check.same("count", x.count(12), 3);
    }

    private static void whatReadsItTakesIt() {
        Check.says(2, "what reads it takes it: it is empty then.");
        WakePark x = new WakePark();
        Check.feed(x, "blows 7;");
        Check.same("a park", x.park(), 0);
        Check.same("is taken", x.count(12), 0);
        Check.same("feed", x.feed('?', 0, 0), 1);
        Check.same("a faulty park", x.park(), 1);
        Check.same("is taken", x.count(12), 0);
        Check.feed(x, "step;");
        Check.same("a day", x.day(), 0);
        Check.same("is taken", x.count(12), 0);
        Check.feed(x, "step;?");
        Check.same("a faulty day", x.day(), 1 + 16 * 5);
        Check.same("is taken", x.count(12), 0);
        Check.same("nothing is left to read", x.day(), 0);
        Check.same("no line", x.count(9), 0);
        Check.feed(x, BLANKS + "?");
        Check.same("a full one", x.park(), 0);
        Check.same("is taken", x.feed(32, 32, 32), 3);
    }

    private static void asLongAsCanBe() {
        Check.says(3, "TOKENS, each as long as can be");
        WakePark x = Check.told("blows 12;");
        Check.same("12 is one", x.count(2), 12);
        Check.told("turbine a plain of1at2;cable a home holds3;");
        Check.told("blows0 1;from0;price0;wakes1 2 3;wears4;slack5;gives6;");
        Check.parkFault(1, "^turbinea plain of 1 at 2;");
        Check.parkFault(1, "turbine a ^plainof 1 at 2;");
        Check.parkFault(1, "turbine a plain ^ofat 1 at 2;");
        Check.parkFault(4, "wears ^100;");
        Check.parkFault(4, "wakes 1 ^23;");
    }

    private static void blanksWhereOneLikes() {
        Check.says(3, "blanks (10, 32) between where one likes");
        Check.told(" \n turbine\n\na  plain \n of 1 at 2 ; \n\n gives ( wind < 3 ) ; \n");
        Check.told("gives((wind<3)+4)*not(5=6)and 7;");
        Check.same("a blank parts digits", Check.told("blows 1 2;").count(2), 1);
        Check.same("a new line parts digits", Check.told("blows 1\n2;").count(2), 1);
        Check.parkFault(1, "^tur bine a plain of 1 at 2;");
        Check.parkFault(1, "^tur\nbine a plain of 1 at 2;");
    }

    private static void wordsOfEightLetters() {
        Check.says(3, "WORDS (letters a .. z, 8 at most)");
        for (String name : new String[] {"a", "z", "az", "abcdefg", "abcdefgh", "zzzzzzzz", "aaaaaaaa"}) {
            Check.told("turbine " + name + " plain of 1 at 2;cable " + name + " home holds 3;");
        }
        WakePark x = Check.told("turbine abcdefgh plain of 1 at 2;turbine abcdefgi plain of 1 at 3;"
            + "turbine bbcdefgh plain of 1 at 4;turbine abcdefg plain of 1 at 5;");
        Check.same("by every letter", x.count(0), 4);
        Check.same("day", Check.readDay(x, "shut abcdefgi;turn bbcdefgh 1;"), 0);
        Check.parkFault(1, "turbine ^abcdefghi plain of 1 at 2;");
        Check.parkFault(1, "turbine ^abcdefghijklmnopqrstuvwxyz plain of 1 at 2;");
        Check.parkFault(1, "^turbineee a plain of 1 at 2;");
        for (char other : new char[] {'`', '{', 'A', 'Z', '@', '[', '_'}) {
            Check.parkFault(1, "turbine ^" + other + " plain of 1 at 2;");
            Check.parkFault(1, "turbine a^" + other + " plain of 1 at 2;");
        }
        Check.says(3, "(a longer WORD or NUMBER, too, at its first sign)");
        Check.parkFault(1, "turbine a plain of 1 at 2 ^blowsblows 1;");
        Check.parkFault(1, "gives ^windwindw;");
        Check.parkFault(1, "gives 1 + ^12345;");
        Check.parkFault(1, "blows ^99999999999999999999 1;");
        Check.dayFault("", 1, "^stepsteps;");
    }

    private static void numbersOfFourDigits() {
        Check.says(3, "NUMBERS (1 to 4 digits; a letter may stand right behind)");
        Check.same("one digit", Check.told("blows 7;").count(2), 7);
        Check.same("two", Check.told("blows 30;").count(2), 30);
        Check.same("three", Check.told("blows 019;").count(2), 19);
        Check.same("four", Check.told("blows 0008;").count(2), 8);
        Check.parkFault(1, "blows ^00008;");
        Check.parkFault(4, "blows ^9999;");
        Check.parkFault(1, "blows ^10000;");
        Check.told("turbine a plain of 0001at 0035;");
        Check.parkFault(1, "turbine a plain of 1^x at 2;");
        Check.parkFault(1, "turbine a plain of 0001^atat 2;");
        Check.parkFault(1, "blows 1^/2;");
        Check.parkFault(1, "blows 1^:2;");
        Check.parkFault(1, "blows 1^.5;");
        Check.parkFault(1, "blows ^-1;");
        Check.same("9999 is told", Check.told("turbine a plain of 1 at 0;gives 9999=9998+1;").power(0), 1);
    }

    private static void theSigns() {
        Check.says(3, "the signs ( ) < = + - * ;");
        WakePark x = Check.told("turbine a plain of 1 at 0;gives (1<2)+(3=3)*9-1;");
        Check.same("all of them", x.power(0), 9);
        Check.says(3, "All else");
        String known = "()<=+-*;";
        for (char sign = 33; sign <= 126; sign++) {
            boolean plain = sign >= 'a' && sign <= 'z' || sign >= '0' && sign <= '9';
            if (!plain && known.indexOf(sign) < 0 && sign != '^') {
                Check.parkFault(1, " ^" + sign);
                Check.parkFault(1, "gives 1^" + sign + "1;");
                Check.parkFault(1, "gives ^" + sign + "1;");
                Check.dayFault("", 1, "step ^" + sign + ";");
                Check.parkFault(1, "cable ^" + sign + " home holds 1;");
                Check.dayFault("", 1, "shut ^" + sign + ";");
            }
        }
        WakePark y = new WakePark();
        Check.same("the sign 94, too", Check.readPark(y, "gives 1^1;"), 1 + 16 * 7);
    }
}
