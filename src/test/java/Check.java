import java.util.HashSet;
import java.util.NoSuchElementException;
import java.util.Set;

/** Counts what is as due and prints what is not. */
final class Check {
    private static int passed;
    private static int failed;
    private static final Set<String> SENTENCES = new HashSet<>();
    private static String sentence = "";

    private Check() {
    }

    /** From here on the checks are those of this sentence of the document, as this promise needs it. */
    static void says(int promise, String words) {
        sentence = "promise " + promise + ", \"" + words + "\": ";
        SENTENCES.add(sentence);
    }

    static void same(String what, long got, long due) {
        if (got == due) {
            passed++;
        } else {
            failed++;
            System.out.println(sentence + what + " answered " + got + ", due is " + due);
        }
    }

    static void is(String what, boolean got) {
        same(what, got ? 1 : 0, 1);
    }

    static void isNot(String what, boolean got) {
        same(what, got ? 1 : 0, 0);
    }

    /** Feeds a whole text, 24 signs a call. */
    static int feed(WakePark park, String text) {
        int there = park.count(12);
        for (int at = 0; at < text.length(); at += 24) {
            there = park.feed(eight(text, at), eight(text, at + 8), eight(text, at + 16));
        }
        return there;
    }

    static long eight(String text, int at) {
        long bytes = 0;
        for (int i = at; i < at + 8; i++) {
            bytes = bytes << 8 | (i < text.length() ? text.charAt(i) & 255 : 0);
        }
        return bytes;
    }

    static int readPark(WakePark park, String text) {
        feed(park, text);
        return park.park();
    }

    static int readDay(WakePark park, String text) {
        feed(park, text);
        return park.day();
    }

    /** A new object with this PARK. */
    static WakePark told(String text) {
        WakePark park = new WakePark();
        same("park of " + text, readPark(park, text), 0);
        return park;
    }

    /** The FAULT of a text, the wrong token being where the sign ^ stands in it. */
    static void parkFault(int kind, String text) {
        WakePark park = new WakePark();
        same("fault of " + text, readPark(park, text.replace("^", "")), kind + 16L * text.indexOf('^'));
    }

    static void dayFault(String parkText, int kind, String text) {
        WakePark park = told(parkText);
        same("fault of " + text, readDay(park, text.replace("^", "")), kind + 16L * text.indexOf('^'));
    }

    /** What rests answers; -9 for its exception. */
    static int rests(WakePark park, int lose, int turns, int stays, int what) {
        try {
            return park.rests(lose, turns, stays, what);
        } catch (NoSuchElementException none) {
            return -9;
        }
    }

    static void end() {
        System.out.println((SENTENCES.isEmpty() ? "" : SENTENCES.size() + " sentences, ") + passed + " passed, " + failed + " failed");
        if (failed != 0) {
            System.exit(1);
        }
    }
}
