/** Promises 3 and 7, sentence by sentence: an E, as it is told and as it is counted. */
public final class LawTest {
    private static final String ONE = "turbine a plain of 1 at 0;";
    private static final int MOST_OPEN = 5;

    public static void main(String[] args) {
        tests();
        sums();
        products();
        parts();
        partsWithinFive();
        partsSideBySide();
        facts();
        nights();
        oneOrZero();
        notZeroIsSo();
        intsWrap();
        withoutGives();
        Check.end();
    }

    /** What one gives by a wind of 10, straight, in step 0. */
    private static int worth(String law) {
        return Check.told(ONE + "blows 10;gives " + law + ";").power(0);
    }

    private static void tests() {
        Check.says(3, "E: TEST { and TEST or or TEST }, from the left");
        Check.same("1 or 1 and 0", worth("1 or 1 and 0"), 0);
        Check.same("0 and 0 or 1", worth("0 and 0 or 1"), 1);
        Check.same("1 or (1 and 0)", worth("1 or (1 and 0)"), 1);
        Check.same("0 and (0 or 1)", worth("0 and (0 or 1)"), 0);
        Check.same("one alone is no 1", worth("42"), 42);
        Check.same("many", worth("1" + " and 1".repeat(100)), 1);
        Check.same("many", worth("0" + " or 0".repeat(100) + " or 7"), 1);
        Check.parkFault(1, "gives ^and 1;");
        Check.parkFault(1, "gives ^or 1;");
        Check.parkFault(1, "gives 1 and ^;");
        Check.parkFault(1, "gives 1 or ^or 1;");
        Check.parkFault(1, "gives 1 and ^and 1;");
        Check.says(3, "TEST: SUM, or SUM < SUM, or SUM = SUM");
        Check.same("9 < 10", worth("9<wind"), 1);
        Check.same("10 < 10", worth("10<wind"), 0);
        Check.same("11 < 10", worth("11<wind"), 0);
        Check.same("9 = 10", worth("9=wind"), 0);
        Check.same("10 = 10", worth("10=wind"), 1);
        Check.same("11 = 10", worth("11=wind"), 0);
        Check.same("sums first", worth("1+1<1+2"), 1);
        Check.same("sums first", worth("5-1=1*4"), 1);
        Check.same("tests before and", worth("1<2 and 3<2"), 0);
        Check.same("tests before or", worth("2<1 or 2=2"), 1);
        Check.parkFault(1, "gives 1 < 2 ^< 3;");
        Check.parkFault(1, "gives 1 = 2 ^= 3;");
        Check.parkFault(1, "gives 1 < 2 ^= 3;");
        Check.parkFault(1, "gives 1 = 2 ^< 3;");
        Check.parkFault(1, "gives 1 <^= 3;");
        Check.parkFault(1, "gives ^< 3;");
        Check.parkFault(1, "gives 3 =^;");
        Check.same("a test in brackets", worth("(1<2)<(2=2)+1"), 1);
        Check.same("a second one behind and", worth("1<2 and 2<3 or 9=8"), 1);
    }

    private static void sums() {
        Check.says(3, "SUM: PRODUCT { + or - PRODUCT }");
        Check.same("from the left", worth("20-5-3"), 12);
        Check.same("from the left", worth("20-5+3"), 18);
        Check.same("brackets", worth("20-(5+3)"), 12);
        Check.same("many", worth("1" + "+1".repeat(97)), 98);
        Check.same("many", worth("99" + "-1".repeat(97)), 2);
        Check.same("as many as the tape holds", worth("1" + "+1".repeat(450)), 99);
        Check.parkFault(1, "gives ^+1;");
        Check.parkFault(1, "gives ^-1;");
        Check.parkFault(1, "gives 1+^;");
        Check.parkFault(1, "gives 1-^-1;");
        Check.parkFault(1, "gives 1+^<1;");
    }

    private static void products() {
        Check.says(3, "PRODUCT: PART { * PART }");
        Check.same("before a sum", worth("1+2*3"), 7);
        Check.same("before a sum", worth("2*3+1"), 7);
        Check.same("before less", worth("20-2*3"), 14);
        Check.same("three", worth("2*3*4"), 24);
        Check.same("many", worth("7" + "*1".repeat(450)), 7);
        Check.same("by 0", worth("99*0"), 0);
        Check.same("brackets", worth("(1+2)*3"), 9);
        Check.parkFault(1, "gives ^*1;");
        Check.parkFault(1, "gives 1*^;");
        Check.parkFault(1, "gives 1*^*1;");
        Check.parkFault(1, "gives 1*^-1;");
    }

    private static void parts() {
        Check.says(3, "PART: a NUMBER, a fact, not PART, ( E )");
        Check.same("a NUMBER", worth("0"), 0);
        Check.same("a NUMBER", worth("0099"), 99);
        Check.same("a fact", worth("wind"), 10);
        Check.same("not PART", worth("not 0"), 1);
        Check.same("not holds a PART alone", worth("not 0+5"), 6);
        Check.same("not holds a PART alone", worth("not 0*5"), 5);
        Check.same("not holds a PART alone", worth("not 1<1"), 1);
        Check.same("not holds a PART alone", worth("3*not 1+4"), 4);
        Check.same("not holds a PART alone", worth("not 0 and 0"), 0);
        Check.same("( E )", worth("(7)"), 7);
        Check.same("( E )", worth("2*(1<2 and 3<4)"), 2);
        Check.same("not ( E )", worth("not(0+5)"), 0);
        Check.parkFault(1, "gives ^;");
        Check.parkFault(1, "gives ^a;");
        Check.parkFault(1, ONE + "gives ^a;");
        Check.parkFault(1, "gives ^turbine;");
        Check.parkFault(1, "gives ^plain;");
        Check.parkFault(1, "gives 1 ^2;");
        Check.parkFault(1, "gives 1 ^wind;");
        Check.parkFault(1, "gives wind^(1);");
        Check.parkFault(1, "gives 1 ^not 1;");
        Check.parkFault(1, "gives not^;");
        Check.parkFault(1, "gives not ^+ 1;");
        Check.parkFault(1, "gives (^);");
        Check.parkFault(1, "gives (1^;");
        Check.parkFault(1, "gives (1^");
        Check.parkFault(1, "gives (1 ^1);");
        Check.parkFault(1, "gives 1^);");
        Check.parkFault(1, "gives (1)^);");
        Check.parkFault(1, "gives ((1)^;");
    }

    /** So many levels of not and ( ), by the bits; ^ stands at what lies within them. */
    private static String within(int bits, int levels, String part) {
        StringBuilder open = new StringBuilder();
        StringBuilder close = new StringBuilder();
        for (int level = 0; level < levels; level++) {
            boolean not = (bits >> level & 1) != 0;
            open.append(not ? "not " : "(");
            close.append(not ? "" : ")");
        }
        return open + "^" + part + close;
    }

    private static void partsWithinFive() {
        Check.says(3, "no PART lies within 5 of not and ( )");
        for (int levels = 0; levels < MOST_OPEN; levels++) {
            for (int bits = 0; bits < 1 << levels; bits++) {
                for (String part : new String[] {"1", "wind", "worn", "angle", "night"}) {
                    Check.told("gives " + within(bits, levels, part).replace("^", "") + ";");
                }
            }
        }
        Check.says(3, "not, or a PART, within 5 others");
        for (int bits = 0; bits < 1 << MOST_OPEN; bits++) {
            for (String part : new String[] {"1", "wind", "night", "not 1", "(1)", "not", "(", "0007"}) {
                Check.parkFault(5, "gives " + within(bits, MOST_OPEN, part) + ";");
                Check.parkFault(5, "gives 1 + (wind) * " + within(bits, MOST_OPEN, part));
            }
        }
        Check.same("four nots", worth("not not not not 7"), 1);
        Check.same("four brackets", worth("((((7))))"), 7);
        Check.parkFault(5, "gives (1 < 2 and (3 + (4 * (5 - (^6)))));");
        Check.parkFault(5, "gives (1 < 2 and (3 + (4 * not (^6))));");
        Check.told("gives (1 < 2 and (3 + (4 * (5 - 6))));");
        for (String none : new String[] {")", ";", "at", "?", "+", "and", "zz", "12345"}) {
            Check.parkFault(1, "gives (((((^" + none);
            Check.parkFault(1, "gives not not not not not ^" + none);
        }
    }

    private static void partsSideBySide() {
        Check.says(3, "no PART lies within 5 of not and ( )");
        Check.same("side by side they do not count", worth("(1)+(1)+(1)+(1)+(1)+(1)+(1)"), 7);
        Check.same("side by side", worth("((((1))))+((((2))))*((((3))))"), 7);
        Check.same("side by side", worth("not not not not 1+not not not not 1"), 2);
        Check.same("side by side", worth("(not (not 1))+not ((not 1))"), 2);
        Check.same("of another text", worth("not 0"), 1);
    }

    private static void facts() {
        Check.says(7, "Facts: wind (that reaches one)");
        WakePark x = Check.told(ONE + "turbine b plain of 1 at 6;blows 30;gives wind;");
        Check.same("what blows", x.power(0), 30);
        Check.same("that reaches one", x.power(1), 15);
        Check.says(7, "worn (how worn one is)");
        x = Check.told(ONE + "turbine b old of 1 at 6;gives 10*worn+1;wears 99;");
        Check.same("not worn", x.power(1), 1);
        x.step();
        Check.same("by 2", x.power(1), 21);
        x.step();
        Check.same("by 4", x.power(1), 41);
        Check.same("each its own", x.power(0), 1);
        Check.says(7, "angle (how far one is turned, 0 to 2, without the side)");
        x = Check.told(ONE + "gives 20+10*angle;");
        // 40 and 30 and 20, of which six and nine tenths are left.
        int[] due = {24, 27, 20, 27, 24};
        for (int angle = 0; angle < 5; angle++) {
            x.turn(0, angle);
            Check.same("angle " + angle, x.power(0), due[angle]);
        }
    }

    private static void nights() {
        Check.says(7, "night (1: in the steps 6 to 11 of each 12)");
        WakePark x = Check.told(ONE + "gives 5+night;");
        for (int step = 0; step < 50; step++) {
            boolean night = step >= 6 && step <= 11 || step >= 18 && step <= 23 || step >= 30 && step <= 35
                || step >= 42 && step <= 47;
            Check.same("step " + step, x.power(0), night ? 6 : 5);
            x.step();
        }
    }

    private static void oneOrZero() {
        Check.says(7, "Of not, and, or, < and = comes 1 or 0");
        Check.same("not 0", worth("5+not 0"), 6);
        Check.same("not 9", worth("5+not 9"), 5);
        Check.same("8 and 9", worth("8 and 9"), 1);
        Check.same("8 or 9", worth("8 or 9"), 1);
        Check.same("0 or 9", worth("0 or 9"), 1);
        Check.same("9 or 0", worth("9 or 0"), 1);
        Check.same("0 or 0", worth("0 or 0"), 0);
        Check.same("0 and 9", worth("0 and 9"), 0);
        Check.same("9 and 0", worth("9 and 0"), 0);
        Check.same("0 and 0", worth("0 and 0"), 0);
        Check.same("7 < 9", worth("5+(7<9)"), 6);
        Check.same("9 < 7", worth("5+(9<7)"), 5);
        Check.same("9 = 9", worth("5+(9=9)"), 6);
        Check.same("below 0 is less", worth("0-1<0"), 1);
        Check.same("no less than 0 comes of and", worth("5+(0 and 9)"), 5);
        Check.same("no less than 0 comes of or", worth("5+(0 or 0)"), 5);
        Check.same("no less than 0 comes of =", worth("5+(9=8)"), 5);
    }

    private static void notZeroIsSo() {
        Check.says(7, "what is not 0 is so");
        Check.same("2", worth("2 and 1"), 1);
        Check.same("below 0", worth("(0-3) and 1"), 1);
        Check.same("below 0", worth("0 or (0-1)"), 1);
        Check.same("not below 0", worth("5+not(0-1)"), 5);
        // 65536 * 65536 is 0 as an int.
        Check.same("what wraps to 0 is not", worth("5+not((256*256)*(256*256))"), 6);
    }

    private static void intsWrap() {
        Check.says(7, "ints wrap");
        // 46340 * 46340 is 2147395600, 88047 less than the greatest int; 46341 * 46341 is beyond it.
        Check.same("46340", worth("(9999*4+6344)*(9999*4+6344)<0"), 0);
        Check.same("46341", worth("(9999*4+6345)*(9999*4+6345)<0"), 1);
        String root = "(9999*4+6344)*(9999*4+6344)";
        Check.same("the greatest", worth("0<" + root + "+9999*8+8055"), 1);
        Check.same("one more", worth("0<" + root + "+9999*8+8056"), 0);
        Check.same("the least", worth("0-" + root + "-9999*8-8055-1<0"), 1);
        Check.same("one less", worth("0-" + root + "-9999*8-8055-2<0"), 0);
        // 9999 * 9999 * 50 is 4999000050, that is 704032754 as an int.
        Check.same("wraps", worth("9999*9999*50-7040*9999*10-10*9999-3164+5"), 5);
        Check.same("wraps below 0 give nothing", worth("9999*9999*30"), 0);
    }

    private static void withoutGives() {
        Check.says(7, "Without gives: wind.");
        WakePark x = Check.told(ONE + "turbine b old of 1 at 6;blows 21 8;");
        for (int step = 0; step < 14; step++) {
            Check.same("a", x.power(0), step % 2 == 0 ? 21 : 8);
            Check.same("b", x.power(1), step >= 10 ? 0 : step % 2 == 0 ? 10 : 4);
            x.step();
        }
        Check.readPark(x, ONE + "gives 3;");
        Check.same("3", x.power(0), 3);
        Check.readPark(x, ONE);
        Check.same("wind again", x.power(0), 10);
    }
}
