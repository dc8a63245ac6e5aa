import java.util.Random;

/** Promises 17 to 25, sentence by sentence: who takes of whom, what comes, the best ANGLES, who should be shut. */
public final class AheadTest {
    private static final String ONE = "turbine a plain of 1 at 0;";
    private static final String TWO = ONE + "turbine b old of 2 at 6;cable a home holds 50;cable b home holds 50;price 13 8;"
        + "blows 10;wears 5;slack 2;";
    /** A column of six, each with its own cable home. */
    private static final String COLUMN = "turbine a plain of 1 at 2;turbine b plain of 1 at 8;turbine c plain of 1 at 14;"
        + "turbine d plain of 1 at 20;turbine e plain of 1 at 26;turbine f plain of 1 at 32;cable a home holds 99;"
        + "cable b home holds 99;cable c home holds 99;cable d home holds 99;cable e home holds 99;cable f home holds 99;";
    private static final int[] OTHERS = {-2, 2, 6, 7, Integer.MIN_VALUE, Integer.MAX_VALUE};

    public static void main(String[] args) {
        taking();
        takingOthers();
        later();
        laterOthers();
        total();
        totalOthers();
        breaks();
        breaksOthers();
        lost();
        best();
        bestOfEqualOnes();
        bestByTryingAll();
        bestOthers();
        alone();
        aloneOfEqualOnes();
        aloneOthers();
        asItIsNow();
        idle();
        idleOfEqualOnes();
        idleOfWholeOnes();
        straight();
        Check.end();
    }

    private static void taking() {
        Check.says(17, "TAKES: how many tenths one takes of another one.");
        WakePark x = Check.told("turbine a plain of 1 at 0;turbine b tall of 2 at 6;turbine c small of 2 at 12;"
            + "turbine d plain of 1 at 18;turbine e old of 1 at 24;wakes 9 4 1;");
        int[][] due = {{-1, 9, 4, 1, 0}, {0, -1, 9, 4, 1}, {0, 0, -1, 8, 3}, {0, 0, 0, -1, 9}, {0, 0, 0, 0, -1}};
        for (int i = 0; i < 5; i++) {
            for (int j = 0; j < 5; j++) {
                Check.same("takes " + i + " " + j, x.takes(i, j), due[i][j]);
            }
        }
        x.shut(0);
        Check.same("one that is shut takes nothing", x.takes(0, 1), 0);
        Check.same("of one that is shut", x.takes(1, 0), 0);
        x.shut(3);
        Check.same("of one that is shut", x.takes(2, 3), 8);
        x.turn(1, 4);
        Check.same("of one that is turned aside", x.takes(1, 2), 0);
        for (int tenths = 0; tenths <= 9; tenths++) {
            WakePark y = Check.told("turbine a plain of 1 at 0;turbine b tall of 2 at 6;turbine c small of 1 at 1;"
                + "turbine d tall of 2 at 7;wakes " + tenths + " 0 0;");
            Check.same("of a tall one", y.takes(0, 1), tenths);
            Check.same("a small one", y.takes(2, 3), Math.max(tenths - 1, 0));
        }
        WakePark z = Check.told(TWO.replace("wears 5", "wears 1"));
        z.turn(0, 1);
        Check.same("whole", z.takes(0, 1), 5);
        z.step();
        Check.same("one that is broken takes nothing", z.takes(0, 1), 0);
    }

    private static void takingOthers() {
        Check.says(17, "TAKES; NONE: others, the same.");
        WakePark x = Check.told(COLUMN);
        Check.same("the last two", x.takes(4, 5), 5);
        for (int other : new int[] {-1, 6, 7, Integer.MIN_VALUE, Integer.MAX_VALUE}) {
            Check.same("others", x.takes(other, 0), -1);
            Check.same("others", x.takes(0, other), -1);
            Check.same("others", x.takes(other, other), -1);
        }
        for (int i = 0; i < 6; i++) {
            Check.same("the same", x.takes(i, i), -1);
        }
        WakePark y = Check.told(TWO);
        Check.same("just outside", y.takes(0, 2), -1);
        Check.same("just outside", y.takes(2, 0), -1);
        Check.same("none at all", new WakePark().takes(0, 1), -1);
        // By a wind from the west d stands a CELL behind a.
        Twin.leaves("takes", z -> z.takes(0, 3), 5);
        Twin.leaves("takes of others", z -> z.takes(0, 4), -1);
    }

    private static void later() {
        Check.says(18, "LATER: what comes HOME behind so many (0 to 60) STEPS, nothing else being done.");
        WakePark x = Check.told(TWO);
        int[] due = {15, 15, 15, 10, 10};
        for (int i = 0; i < due.length; i++) {
            Check.same("later " + i, x.later(i), due[i]);
        }
        Check.same("none is mended", x.later(60), 10);
        x.step();
        Check.same("now", x.later(0), 15);
        Check.same("from now on", x.later(2), 10);
        WakePark y = Check.told(ONE + "cable a home holds 50;blows 1 2 3 4 5 6 7;gives 2*wind+night;");
        for (int i = 0; i <= 60; i++) {
            Check.same("by the wind and the night then, " + i, y.later(i), 2 * (i % 7 + 1) + (i % 12 >= 6 ? 1 : 0));
        }
        Check.same("nothing was done", y.count(1), 0);
    }

    private static void laterOthers() {
        Check.says(18, "LATER; NONE: others.");
        WakePark x = Check.told(TWO);
        Check.same("0", x.later(0), 15);
        Check.same("60", x.later(60), 10);
        for (int other : new int[] {-1, 61, 62, Integer.MIN_VALUE, Integer.MAX_VALUE}) {
            Check.same("others", x.later(other), -1);
        }
        Check.same("an empty sea", new WakePark().later(60), 0);
        Twin.leaves("later", y -> y.later(0), 26);
        Twin.leaves("later 61", y -> y.later(61), -1);
        Twin.leaves("later -1", y -> y.later(-1), -1);
    }

    private static void total() {
        Check.says(19, "TOTAL: what is sold in so many (1 to 60).");
        WakePark x = Check.told(TWO);
        Check.same("1", x.total(1), 45);
        Check.same("2", x.total(2), 15);
        Check.same("3", x.total(3), 60);
        Check.same("4", x.total(4), 40);
        Check.same("60", x.total(60), 60 - 20 * 29 + 30 * 28);
        x.step();
        Check.same("from now on", x.total(1), -30);
        Check.same("from now on", x.total(2), 15);
        Check.same("what was sold is as it was", x.count(6), 45);
        WakePark y = Check.told(ONE + "cable a home holds 50;price 20 1;");
        for (int i = 1; i <= 60; i++) {
            Check.same("by 10 and -9, " + i, y.total(i), i / 2 * 10 + i % 2 * 100);
        }
    }

    private static void totalOthers() {
        Check.says(19, "TOTAL; -1000000: others.");
        WakePark x = Check.told(TWO);
        Check.same("1", x.total(1), 45);
        Check.same("60", x.total(60), 320);
        for (int other : new int[] {0, -1, 61, 62, Integer.MIN_VALUE, Integer.MAX_VALUE}) {
            Check.same("others", x.total(other), -1000000);
        }
        Check.same("an empty sea", new WakePark().total(60), 0);
        Twin.leaves("total", y -> y.total(1), -52);
        Twin.leaves("total 0", y -> y.total(0), -1000000);
        Twin.leaves("total 61", y -> y.total(61), -1000000);
    }

    private static void breaks() {
        Check.says(20, "BREAKS of one: in how many (1 to 100) it is broken.");
        WakePark x = Check.told(TWO);
        Check.same("by 3", x.breaks(1), 3);
        x.step();
        Check.same("by 2", x.breaks(1), 2);
        x.step();
        Check.same("by 1", x.breaks(1), 1);
        Check.same("whole still", x.count(8), 0);
        String half = ONE + "turbine b plain of 2 at 6;from 1 0;";
        Check.same("by 98", Check.told(half + "wears 49;").breaks(1), 98);
        Check.same("by 100", Check.told(half + "wears 50;").breaks(1), 100);
        // c is worn by a's wake until a is broken.
        WakePark y = Check.told(ONE + "turbine c plain of 1 at 6;wears 3;");
        y.turn(0, 1);
        Check.same("a", y.breaks(0), 3);
        Check.same("c in the same step", y.breaks(1), 3);
        y.turn(0, 0);
        Check.same("a by 2 a step", y.breaks(0), 2);
        Check.same("c, alone then, never", y.breaks(1), -1);
    }

    private static void breaksOthers() {
        Check.says(20, "BREAKS; NONE: others, broken, not by 100.");
        WakePark x = Check.told(TWO);
        for (int other : OTHERS) {
            Check.same("others", x.breaks(other), -1);
        }
        Check.same("below", x.breaks(-1), -1);
        Check.same("never", x.breaks(0), -1);
        x.shut(1);
        Check.same("one that is shut", x.breaks(1), -1);
        x.open(1);
        x.step();
        x.step();
        x.step();
        Check.same("broken", x.breaks(1), -1);
        Check.same("none at all", new WakePark().breaks(0), -1);
        String half = ONE + "turbine b plain of 2 at 6;from 0 1;";
        Check.same("by 99", Check.told(half + "wears 50;").breaks(1), 99);
        WakePark y = Check.told(half + "wears 51;");
        Check.same("by 101, that is not", y.breaks(1), -1);
        y.step();
        Check.same("by 100", y.breaks(1), 100);
        Twin.leaves("breaks", z -> z.breaks(0), 1);
        Twin.leaves("breaks of a broken one", z -> z.breaks(1), -1);
        Twin.leaves("breaks of others", z -> z.breaks(4), -1);
    }

    private static void lost() {
        Check.says(21, "LOST: POWER of all less HOME.");
        WakePark x = Check.told("turbine a plain of 1 at 0;turbine b plain of 1 at 1;turbine c plain of 1 at 2;"
            + "cable a home holds 15;cable b to a holds 7;");
        Check.same("3 of b, 2 of a, 10 of c", x.lost(), 15);
        x.shut(2);
        Check.same("3 and 2", x.lost(), 5);
        x.shut(1);
        Check.same("nothing", x.lost(), 0);
        x.shut(0);
        Check.same("nothing", x.lost(), 0);
        Check.same("an empty sea", new WakePark().lost(), 0);
        Check.same("all, without a cable", Check.told(ONE).lost(), 10);
        Check.same("just full", Check.told(ONE + "cable a home holds 10;").lost(), 0);
        Check.same("one too many", Check.told(ONE + "cable a home holds 9;").lost(), 1);
        Twin.leaves("lost: 21 and 14 less 26", y -> y.lost(), 9);
    }

    private static void row(WakePark x, String what, int sold, int... angles) {
        Check.same(what + ", sold", x.best(-1), sold);
        for (int i = 0; i < angles.length; i++) {
            Check.same(what + ", angle " + i, x.best(i), angles[i]);
        }
    }

    private static void best() {
        Check.says(22, "BEST: the ANGLES of all by which the most is sold in this step");
        WakePark x = Check.told(TWO);
        row(x, "price 3", 48, 0, 2);
        x.step();
        row(x, "price -2: the least comes home", -24, 0, 0);
        Check.same("nothing is turned", x.turbine(0, 3), 2);
        row(Check.told(ONE + "cable a home holds 9;price 20;"), "full by 1", 90, 1);
        row(Check.told(ONE + "cable a home holds 6;price 20;"), "full by 0", 60, 0);
        row(Check.told(ONE + "cable a home holds 10;price 20;"), "full by 2", 100, 2);
        row(Check.told(ONE + "cable a home holds 99;price 20;gives 10*(angle=1);"), "by a law", 90, 1);
        row(Check.told(ONE + "cable a home holds 99;price 20;gives 99*angle;"), "by a law", 890, 1);
        // Turned to the west the wake leaves the sea, turned to the east it falls on c.
        String three = "turbine a plain of 1 at 0;turbine b plain of 1 at 6;turbine c plain of 1 at 7;"
            + "cable a home holds 6;cable b home holds 99;cable c home holds 99;price 11;";
        x = Check.told(three);
        row(x, "west", 26, 0, 2, 2);
        x.turn(0, 4);
        x.turn(1, 1);
        row(x, "as they are turned now matters not", 26, 0, 2, 2);
        x.shut(1);
        row(x, "b is shut", 16, 0, 0, 2);
        x = Check.told("turbine a plain of 1 at 1;turbine b plain of 1 at 7;turbine c plain of 1 at 6;"
            + "cable a home holds 6;cable b home holds 99;cable c home holds 99;price 11;");
        row(x, "east", 26, 4, 2, 2);
        row(Check.told(ONE + "cable a home holds 99;price 20;gives 10*(wind=10);"), "by all the wind alone", 100, 2);
        x = Check.told("turbine b plain of 1 at 6;turbine a plain of 1 at 0;cable b home holds 99;cable a home holds 99;price 11;");
        row(x, "the first one stands behind", 16, 2, 0);
        x = Check.told("turbine b plain of 1 at 6;turbine a plain of 1 at 0;cable b home holds 99;cable a home holds 99;price 9;");
        // Of a 6 and of b 6, or of a, turned by one, 9 and of b 3: by both 12 come home.
        row(x, "the least, the first one behind", -12, 0, 0);
        row(Check.told(ONE + "cable a home holds 99;price 20;blows 20;gives 10*(angle=1)*(wind=20);"), "by one angle alone", 90, 1);
        // b gives nothing, but leaves a half of the wind, by which alone a gives something, of which its cable carries 9.
        row(Check.told("turbine a plain of 1 at 6;turbine b plain of 1 at 0;cable a home holds 9;price 11;blows 20;"
            + "gives 10*(wind=10);"), "by half of the wind alone", 9, 1, 1);
        // b, straight, takes of c, turned to the west of a, turned to the east of none.
        x = Check.told("turbine a plain of 1 at 12;turbine b plain of 1 at 1;turbine c plain of 1 at 13;cable a home holds 99;"
            + "cable b home holds 9;cable c home holds 99;price 11;");
        row(x, "to the one side alone", 29, 2, 3, 2);
        // Whoever is turned by two leaves all behind it alone; the last one needs not.
        row(Check.told(COLUMN + "wakes 9 9 9;price 11;"), "six", 40, 0, 0, 0, 0, 0, 2);
        row(Check.told(COLUMN + "wakes 0 0 0;price 11;"), "six without wakes", 60, 2, 2, 2, 2, 2, 2);
    }

    private static void bestOfEqualOnes() {
        Check.says(22, "of equal ones the first row (by numbers): how much; which");
        row(Check.told(ONE + "cable a home holds 9;"), "price 0", 0, 0);
        row(Check.told(ONE + "price 20;"), "no cable", 0, 0);
        row(Check.told(COLUMN), "six for nothing", 0, 0, 0, 0, 0, 0, 0);
        row(Check.told(COLUMN + "price 0;gives 1;"), "all give nothing, turned", 0, 0, 0, 0, 0, 0, 0);
        WakePark x = Check.told(COLUMN + "price 20;wears 1;");
        x.shut(0);
        x.shut(3);
        x.shut(5);
        // b gives 6 and leaves c and e alone, c gives 9 and leaves e alone; shut ones are turned to 0.
        row(x, "shut ones", 10 * (6 + 9 + 10), 0, 0, 1, 0, 2, 0);
        // One of the two needs not be straight; the first row turns the first one.
        row(Check.told("turbine a plain of 1 at 0;turbine b plain of 1 at 1;cable a home holds 19;cable b to a holds 99;price 11;"),
            "19 of 20", 19, 1, 2);
        row(Check.told("turbine b plain of 1 at 1;turbine a plain of 1 at 0;cable a home holds 16;cable b to a holds 99;price 11;"),
            "16 of 20", 16, 0, 2);
    }

    /** Seas of three near one another, by chance but always the same: all rows are tried by hand. */
    private static void bestByTryingAll() {
        Random random = new Random(17);
        String[] kinds = {"plain", "tall", "old", "small"};
        String[] laws = {"", "gives 10*(wind=20);", "gives 3*wind-20*angle;", "gives 99*(wind<17)+wind;", "gives wind*wind-50;"};
        for (int sea = 0; sea < 80; sea++) {
            StringBuilder text = new StringBuilder();
            int[] cells = {random.nextInt(3), 3 + random.nextInt(3), 6 + random.nextInt(3)};
            for (int i = 0; i < 3; i++) {
                int cell = 7 + cells[(i + sea) % 3] / 3 * 6 + cells[(i + sea) % 3] % 3;
                text.append("turbine ").append((char) ('a' + i)).append(' ').append(kinds[random.nextInt(4)]).append(" of ");
                text.append(1 + random.nextInt(2)).append(" at ").append(cell).append(';');
                if (random.nextInt(6) > 0) {
                    text.append("cable ").append((char) ('a' + i)).append(" home holds ").append(5 + random.nextInt(25)).append(';');
                }
            }
            text.append("blows 20;from ").append(random.nextInt(4)).append(";price ").append(random.nextInt(4) > 0 ? 13 : 7);
            text.append(";wakes ").append(random.nextInt(10)).append(' ').append(random.nextInt(10)).append(" 2;");
            text.append(laws[random.nextInt(laws.length)]);
            tryAll(text.toString());
        }
    }

    private static void tryAll(String sea) {
        WakePark x = Check.told(sea);
        int price = x.count(4);
        int most = Integer.MIN_VALUE;
        int best = 0;
        int[] owned = new int[3];
        int[] first = {-1, -1, -1};
        for (int row = 0; row < 125; row++) {
            int[] angles = {row / 25, row / 5 % 5, row % 5};
            boolean[] own = {true, true, true};
            for (int i = 0; i < 3; i++) {
                x.turn(i, angles[i]);
                // Those of another owner are as they are: straight.
                own[1] &= x.turbine(i, 1) == 1 || angles[i] == 2;
                own[2] &= x.turbine(i, 1) == 2 || angles[i] == 2;
            }
            if (x.home() * price > most) {
                most = x.home() * price;
                best = row;
            }
            for (int owner = 1; owner <= 2; owner++) {
                int power = 0;
                for (int i = 0; i < 3; i++) {
                    power += x.turbine(i, 1) == owner ? x.power(i) : 0;
                }
                if (own[owner] && (first[owner] < 0 || power > owned[owner])) {
                    owned[owner] = power;
                    first[owner] = row;
                }
            }
            if (row % 25 == 24) {
                x = Check.told(sea);
            }
        }
        int[] unit = {25, 5, 1};
        Check.same("best of " + sea, x.best(-1), most);
        for (int owner = 1; owner <= 2; owner++) {
            Check.same("alone of " + sea, x.alone(owner, -1), owned[owner]);
        }
        for (int i = 0; i < 3; i++) {
            Check.same("best row of " + sea, x.best(i), best / unit[i] % 5);
            Check.same("row of 1 of " + sea, x.alone(1, i), first[1] / unit[i] % 5);
            Check.same("row of 2 of " + sea, x.alone(2, i), first[2] / unit[i] % 5);
        }
    }

    private static void bestOthers() {
        Check.says(22, "what NONE: how much; i: the ANGLE of the i-th; -1000000: others.");
        WakePark x = Check.told(TWO);
        Check.same("how much", x.best(WakePark.NONE), 48);
        Check.same("the last one", x.best(1), 2);
        for (int other : OTHERS) {
            Check.same("others", x.best(other), -1000000);
        }
        Check.same("a seventh", Check.told(COLUMN).best(6), -1000000);
        Check.same("an empty sea", new WakePark().best(-1), 0);
        Check.same("an empty sea", new WakePark().best(0), -1000000);
        Twin.leaves("best of others", y -> y.best(4), -1000000);
        Twin.leaves("best of b, that is broken", y -> y.best(1), 0);
    }

    private static void alone() {
        Check.says(23, "ALONE for an owner: the ANGLES of its own by which its own have the most POWER, together, "
            + "others as they are");
        WakePark x = Check.told(TWO);
        Check.same("a", x.alone(1, -1), 10);
        Check.same("a", x.alone(1, 0), 2);
        Check.same("b", x.alone(2, -1), 5);
        Check.same("b", x.alone(2, 1), 2);
        x.turn(0, 4);
        x.turn(1, 3);
        Check.same("b, a being turned", x.alone(2, -1), 10);
        Check.same("a", x.alone(1, -1), 10);
        Check.says(23, "how much; which (others as they are)");
        Check.same("a as it is", x.alone(2, 0), 4);
        Check.same("b as it is", x.alone(1, 1), 3);
        Check.same("b", x.alone(2, 1), 2);
        WakePark y = Check.told(ONE + "turbine b plain of 1 at 6;price 0;");
        Check.same("by POWER, without cables or a price", y.alone(1, -1), 16);
        Check.same("a is turned", y.alone(1, 0), 0);
        Check.same("b is not", y.alone(1, 1), 2);
        Check.same("of the other owner", y.alone(2, -1), 0);
        Check.same("as it is", y.alone(2, 1), 2);
        y = Check.told("turbine b plain of 1 at 6;" + ONE);
        Check.same("the first one stands behind", y.alone(1, -1), 16);
        Check.same("b is not turned", y.alone(1, 0), 2);
        Check.same("a is", y.alone(1, 1), 0);
        WakePark z = Check.told(COLUMN + "wakes 9 9 9;");
        Check.same("six", z.alone(1, -1), 40);
        for (int i = 0; i < 6; i++) {
            Check.same("six", z.alone(1, i), i < 5 ? 0 : 2);
            Check.same("as they are", z.alone(2, i), 2);
        }
    }

    private static void aloneOfEqualOnes() {
        Check.says(23, "of equal ones the first row");
        WakePark x = Check.told(TWO);
        x.shut(1);
        Check.same("one that is shut", x.alone(2, -1), 0);
        Check.same("the first row", x.alone(2, 1), 0);
        x = Check.told("turbine a plain of 2 at 0;turbine b plain of 2 at 6;blows 0;");
        Check.same("no wind", x.alone(2, -1), 0);
        Check.same("the first row", x.alone(2, 0), 0);
        Check.same("the first row", x.alone(2, 1), 0);
        Check.same("as it is", x.alone(1, 1), 2);
    }

    private static void aloneOthers() {
        Check.says(23, "ALONE by an owner (1, 2), what NONE: how much; i: the ANGLE of the i-th; -2: others.");
        WakePark x = Check.told(TWO);
        for (int other : new int[] {-1, 0, 3, Integer.MIN_VALUE, Integer.MAX_VALUE}) {
            Check.same("owner " + other, x.alone(other, -1), -2);
            Check.same("owner " + other, x.alone(other, 0), -2);
        }
        for (int other : OTHERS) {
            Check.same("others", x.alone(1, other), -2);
            Check.same("others", x.alone(2, other), -2);
        }
        Check.same("a seventh", Check.told(COLUMN).alone(1, 6), -2);
        Check.same("an empty sea", new WakePark().alone(1, -1), 0);
        Check.same("an empty sea", new WakePark().alone(2, -1), 0);
        Check.same("an empty sea", new WakePark().alone(2, 0), -2);
        Twin.leaves("alone: a 24, c 24 of 1", y -> y.alone(1, -1), 48);
        Twin.leaves("alone of others", y -> y.alone(1, 4), -2);
        Twin.leaves("alone of another owner", y -> y.alone(3, -1), -2);
    }

    /** What was sought once is sought again when anything is otherwise. */
    private static void asItIsNow() {
        Check.says(22, "(All by how it is now.)");
        WakePark x = Check.told(TWO);
        Check.same("best", x.best(-1), 48);
        Check.same("alone", x.alone(2, -1), 5);
        x.shut(0);
        Check.same("shut", x.best(-1), 30);
        Check.same("shut", x.alone(2, -1), 10);
        x.open(0);
        Check.same("open", x.best(-1), 48);
        x.mark(0, false);
        x.turn(0, 0);
        Check.same("turned", x.alone(2, -1), 10);
        x.undo();
        Check.same("undone", x.alone(2, -1), 5);
        x.step();
        Check.same("step", x.best(-1), -24);
        x.mark(0, true);
        Check.same("back", x.best(-1), 48);
        for (int i = 0; i < 4; i++) {
            x.step();
        }
        Check.same("broken", x.best(-1), 30);
        x.mend(1);
        Check.same("mended", x.best(-1), 48);
        Check.readPark(x, "turbine a plain of 2 at 0;price 20;cable a home holds 4;");
        Check.same("another park", x.best(-1), 40);
        Check.same("another park", x.alone(2, -1), 10);
    }

    private static void idle() {
        Check.says(24, "IDLE: which of those that are whole should be shut, all others of these open, "
            + "so that the most is sold in this step");
        WakePark x = Check.told(TWO);
        Check.same("none", x.idle(), 0);
        x.step();
        Check.same("all, for a price below nothing", x.idle(), 3);
        String small = ONE + "turbine b plain of 1 at 6;cable a home holds 1;cable b home holds 50;wakes 9 0 0;";
        WakePark y = Check.told(small + "price 11;");
        Check.same("a takes more than it brings", y.idle(), 1);
        y.shut(1);
        Check.same("as it is now matters not", y.idle(), 1);
        y.shut(0);
        Check.same("as it is now matters not", y.idle(), 1);
        y = Check.told(ONE + "turbine b plain of 1 at 6;price 11;cable b home holds 6;");
        Check.same("a", y.idle(), 1);
        y = Check.told(ONE + "turbine b plain of 1 at 6;price 9;cable b home holds 6;");
        Check.same("b", y.idle(), 2);
        y = Check.told(ONE + "turbine b plain of 1 at 6;price 11;cable b home holds 10;");
        Check.same("a", y.idle(), 1);
        y.turn(0, 4);
        Check.same("turned as they are: none", y.idle(), 0);
        Check.same("all six", Check.told(COLUMN + "price 9;").idle(), 63);
        Check.same("none of six", Check.told(COLUMN + "price 11;wakes 0 0 0;").idle(), 0);
        // The last one alone has a way home; three stand so near that they take its wind.
        Check.same("three of six", Check.told(COLUMN.substring(0, COLUMN.indexOf("cable")) + "cable f home holds 99;price 11;"
            + "wakes 9 9 9;").idle(), 4 + 8 + 16);
    }

    private static void idleOfEqualOnes() {
        Check.says(24, "of equal ones the least set (bits)");
        Check.same("price 0", Check.told(COLUMN).idle(), 0);
        Check.same("no cable", Check.told(ONE + "price 20;").idle(), 0);
        Check.same("an empty sea", new WakePark().idle(), 0);
        Check.same("equal by 0, 1, 2",
            Check.told(ONE + "turbine b plain of 1 at 6;cable a home holds 5;cable b to a holds 5;price 11;").idle(), 0);
        WakePark x = Check.told(ONE + "turbine b plain of 1 at 1;turbine c plain of 1 at 2;cable b home holds 99;price 9;");
        Check.same("b alone", x.idle(), 2);
        // c has the most wind if a is shut, b is shut, or both; a is the least.
        x = Check.told("turbine a plain of 1 at 0;turbine b plain of 1 at 6;turbine c plain of 1 at 12;wakes 3 3 0;"
            + "cable c home holds 7;price 11;");
        Check.same("a", x.idle(), 1);
    }

    private static void idleOfWholeOnes() {
        Check.says(24, "which of those that are whole should be shut");
        WakePark x = Check.told(TWO);
        x.step();
        x.step();
        x.step();
        Check.same("b is broken, a is for a price below nothing", x.idle(), 1);
        x.step();
        Check.same("b is broken", x.idle(), 0);
        x.step();
        x.shut(1);
        Check.same("b is broken and shut", x.idle(), 1);
        Check.same("nothing was shut", x.count(7), 1);
        Twin.leaves("idle: a and c, that bring something", y -> y.idle(), 5);
    }

    private static void straight() {
        Check.says(25, "STRAIGHT: by how much more is sold in this step if all are turned straight (less than 0: less).");
        WakePark x = Check.told(TWO);
        Check.same("they are", x.straight(), 0);
        x.turn(0, 0);
        Check.same("16 become 15, for 3", x.straight(), -3);
        x.turn(1, 1);
        Check.same("15 become 15", x.straight(), 0);
        x.turn(1, 0);
        Check.same("12 become 15", x.straight(), 9);
        x.step();
        Check.same("for -2", x.straight(), -6);
        Check.same("nothing was turned", x.turbine(1, 3), 0);
        x.shut(0);
        Check.same("6 become 10", x.straight(), -8);
        Check.same("an empty sea", new WakePark().straight(), 0);
        WakePark y = Check.told(ONE + "price 20;");
        y.turn(0, 0);
        Check.same("without a cable", y.straight(), 0);
        // a gives 24, of which 12 are carried, and c 24, of which 24 are: ten more than 14.
        Twin.leaves("straight", z -> z.straight(), -20);
    }
}
