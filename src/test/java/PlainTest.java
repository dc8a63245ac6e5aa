import java.util.ArrayList;
import java.util.List;
import java.util.Random;

/** Random runs of calls, each answer held against the plain model of the document. */
public final class PlainTest {
    private static final String[] NAMES = {"a", "b", "zz", "wind", "night", "abcdefgh", "q", "angle"};
    private static final String[] KINDS = {"plain", "tall", "old", "small"};
    private static final String[] ODD = {";", "(", ")", "<", "=", "+", "-", "*", "?", "not", "and", "or", "wind", "worn", "a",
        "b", "turbine", "cable", "home", "to", "holds", "at", "of", "step", "turn", "shut", "blows", "price", "from", "wakes",
        "wears", "slack", "gives", "plain", "abcdefghi", "0", "1", "2", "3", "9", "31", "36", "201", "12345", "9999", "\n", "A"};

    private final Random random;
    private WakePark x = new WakePark();
    private PlainPark plain = new PlainPark();
    private final List<PlainPark> past = new ArrayList<>();
    private final PlainPark[] marks = new PlainPark[4];
    private int calls;

    private PlainTest(long seed) {
        random = new Random(seed);
    }

    public static void main(String[] args) {
        int runs = args.length > 0 ? Integer.parseInt(args[0]) : 400;
        for (int seed = 0; seed < runs; seed++) {
            new PlainTest(seed).run();
        }
        Check.end();
    }

    private int below(int n) {
        return random.nextInt(n);
    }

    private void run() {
        tellPark(parkText());
        for (int i = 0; i < 150 && calls < 400; i++) {
            deed();
            look();
            if (below(25) == 0) {
                tellPark(below(2) == 0 ? parkText() : broken(parkText()));
            }
            if (below(15) == 0) {
                tellDay(below(2) == 0 ? dayText() : broken(dayText()));
            }
        }
    }

    private void same(String what, long got, long due) {
        calls++;
        Check.same(what, got, due);
    }

    private void feed(String text) {
        for (int at = 0; at < text.length(); at += 24) {
            same("feed", x.feed(Check.eight(text, at), Check.eight(text, at + 8), Check.eight(text, at + 16)),
                Math.min(text.length(), at + 24));
        }
    }

    private void tellPark(String text) {
        feed(text);
        int due = 0;
        try {
            PlainPark read = PlainPark.read(text);
            plain = read;
            past.clear();
            for (int i = 0; i < 4; i++) {
                marks[i] = null;
            }
        } catch (PlainPark.Wrong wrong) {
            due = wrong.fault;
        }
        same("park of " + text, x.park(), due);
    }

    private void tellDay(String text) {
        feed(text);
        int due = plain.readDay(text);
        same("day of " + text, x.day(), due);
    }

    private String parkText() {
        StringBuilder s = new StringBuilder();
        int mills = below(8) == 0 ? below(7) : 2 + below(5);
        int corner = below(4) + 6 * below(4);
        List<Integer> cells = new ArrayList<>();
        List<String> names = new ArrayList<>();
        while (names.size() < mills) {
            String name = NAMES[below(NAMES.length)];
            int cell = below(3) == 0 ? below(36) : Math.min(35, corner + below(3) + 6 * below(4));
            if (!names.contains(name) && !cells.contains(cell)) {
                names.add(name);
                cells.add(cell);
                s.append("turbine ").append(name).append(' ').append(KINDS[below(4)]).append(" of ").append(1 + below(2))
                    .append(" at ").append(cell).append(';');
            }
        }
        List<String> cabled = new ArrayList<>();
        for (int i = 0; i < mills; i++) {
            String name = names.get(below(mills));
            if (!cabled.contains(name)) {
                String goal = cabled.isEmpty() || below(3) == 0 ? "home" : "to " + cabled.get(below(cabled.size()));
                s.append("cable ").append(name).append(' ').append(goal).append(" holds ")
                    .append(1 + below(below(2) == 0 ? 30 : 200)).append(";\n");
                cabled.add(name);
            }
        }
        list(s, "blows", 31, 1);
        list(s, "from", 4, 2);
        list(s, "price", 21, 1);
        if (below(2) == 0) {
            s.append("wakes ").append(below(10)).append(' ').append(below(10)).append(' ').append(below(10)).append(';');
        }
        if (below(2) == 0) {
            s.append("wears ").append(1 + below(below(2) == 0 ? 10 : 99)).append(';');
        }
        if (below(2) == 0) {
            s.append("slack ").append(1 + below(12)).append(';');
        }
        if (below(2) == 0) {
            s.append("gives ");
            law(s, 0);
            s.append(';');
        }
        return s.length() <= 1000 ? s.toString() : s.substring(0, 1000);
    }

    private void list(StringBuilder s, String word, int limit, int odds) {
        if (below(4) >= odds) {
            s.append(word);
            for (int n = 1 + below(8); n > 0; n--) {
                s.append(' ').append(below(limit));
            }
            s.append(';');
        }
    }

    private void law(StringBuilder s, int depth) {
        if (below(3) == 0) {
            s.append("wind*").append(1 + below(5)).append("-worn*3+");
        }
        int parts = 1 + below(4);
        String[] joins = {"+", "-", "*", "<", "=", " and ", " or ", "+", "-", "*"};
        boolean test = false;
        for (int i = 0; i < parts; i++) {
            if (i > 0) {
                String join = joins[below(joins.length)];
                if ((join.equals("<") || join.equals("=")) && test) {
                    join = "+";
                }
                test = join.equals("<") || join.equals("=") || test && !join.startsWith(" ");
                s.append(join);
            }
            part(s, depth);
        }
    }

    private void part(StringBuilder s, int depth) {
        int which = below(depth >= 4 ? 6 : 9);
        if (which < 2) {
            s.append(below(which == 0 ? 60 : 10000));
        } else if (which < 6) {
            s.append(' ').append(new String[] {"wind", "worn", "angle", "night"}[which - 2]).append(' ');
        } else if (which == 6) {
            s.append(" not ");
            part(s, depth + 1);
        } else {
            s.append('(');
            law(s, depth + 1);
            s.append(')');
        }
    }

    private String dayText() {
        StringBuilder s = new StringBuilder();
        String[] deeds = {"turn", "shut", "open", "mend", "step", "step", "step"};
        int lines = below(6) == 0 ? 39 + below(4) : below(25);
        for (int i = 0; i < lines; i++) {
            String deed = plain.mills.isEmpty() ? "step" : deeds[below(deeds.length)];
            s.append(deed);
            if (!deed.equals("step")) {
                s.append(' ').append(plain.mills.get(below(plain.mills.size())).name);
            }
            if (deed.equals("turn")) {
                s.append(' ').append(below(5));
            }
            s.append(';');
        }
        return s.toString();
    }

    /** Puts in, takes out or changes a token or a sign. */
    private String broken(String text) {
        List<PlainPark.Token> tokens = PlainPark.tokens(text);
        PlainPark.Token token = tokens.get(below(tokens.size()));
        String odd = ODD[below(ODD.length)];
        String head = text.substring(0, token.place);
        String tail = text.substring(token.place);
        String rest = text.substring(token.place + token.text.length());
        String result;
        switch (below(5)) {
            case 0:
                result = head + odd + tail;
                break;
            case 1:
                result = head + rest;
                break;
            case 2:
                result = head;
                break;
            case 3:
                result = head + " " + odd + " " + tail;
                break;
            default:
                result = head + odd + " " + rest;
                break;
        }
        return result.length() <= 1000 ? result : result.substring(0, 1000);
    }

    private void deed() {
        int n = plain.mills.size();
        int who = below(10) == 0 ? below(9) - 1 : n == 0 ? 0 : below(n);
        boolean there = who >= 0 && who < n;
        PlainPark before = plain.copy();
        boolean done = false;
        switch (below(9)) {
            case 0:
            case 1: {
                int angle = below(10) == 0 ? below(8) - 2 : below(5);
                done = there && angle >= 0 && angle < 5;
                same("turn", x.turn(who, angle), done ? plain.mills.get(who).angle : -1);
                if (done) {
                    plain.mills.get(who).angle = angle;
                }
                break;
            }
            case 2:
                done = there && plain.act("shut", plain.mills.get(who), 0);
                same("shut", x.shut(who) ? 1 : 0, done ? 1 : 0);
                break;
            case 3:
                done = there && plain.act("open", plain.mills.get(who), 0);
                same("open", x.open(who) ? 1 : 0, done ? 1 : 0);
                break;
            case 4:
                done = there && plain.act("mend", plain.mills.get(who), 0);
                same("mend", x.mend(who) ? 1 : 0, done ? 1 : 0);
                break;
            case 5:
            case 6:
                done = true;
                same("step", x.step(), plain.doStep());
                break;
            case 7:
                undo();
                break;
            default:
                mark(below(6) - 1, below(2) == 0);
                break;
        }
        if (done) {
            past.add(before);
            if (past.size() > 16) {
                past.remove(0);
            }
        }
    }

    private void undo() {
        same("undo", x.undo() ? 1 : 0, past.isEmpty() ? 0 : 1);
        if (!past.isEmpty()) {
            PlainPark back = past.remove(past.size() - 1);
            back.day = plain.day;
            back.seen = plain.seen;
            plain = back;
        }
    }

    private void mark(int mark, boolean back) {
        boolean such = mark >= 0 && mark < 4;
        if (!back) {
            same("mark", x.mark(mark, false) ? 1 : 0, such ? 1 : 0);
            if (such) {
                marks[mark] = plain.copy();
            }
            return;
        }
        boolean laid = such && marks[mark] != null;
        same("mark back", x.mark(mark, true) ? 1 : 0, laid ? 1 : 0);
        if (laid) {
            plain = marks[mark].copy();
            past.clear();
        }
    }

    private void look() {
        int n = plain.mills.size();
        int who = below(20) == 0 ? below(9) - 1 : n == 0 ? 0 : below(n);
        boolean there = who >= 0 && who < n;
        PlainPark.Mill m = there ? plain.mills.get(who) : null;
        switch (below(8)) {
            case 0:
                lookAtOne(who, m);
                break;
            case 1:
                lookAtCounts();
                break;
            case 2:
                lookAhead(who, m);
                break;
            case 3:
                lookForBest(n);
                break;
            case 4:
                lookAtCables(who, m);
                break;
            case 5:
                lookAtWinds(who, m);
                break;
            case 6:
                lookAtWakes(who, m);
                break;
            default: {
                int seed = below(10000);
                int steps = 1 + below(99);
                for (int what = 0; what < 3; what++) {
                    same("days", x.days(seed, steps, what), plain.days(seed, steps, what));
                    same("judged " + what, x.judged(what), plain.judged(what));
                }
                break;
            }
        }
    }

    private void lookAtOne(int who, PlainPark.Mill m) {
        int goal = m == null || !m.cabled ? -1 : m.goal == null ? 6 : plain.mills.indexOf(m.goal);
        int[] due = m == null ? null : new int[] {List.of(KINDS).indexOf(m.kind), m.owner, m.cell, m.angle, m.open ? 1 : 0,
            m.broken ? 1 : 0, m.worn, goal, m.holds};
        for (int what = -1; what <= 9; what++) {
            same("turbine " + what, x.turbine(who, what), due == null || what < 0 || what > 8 ? -2 : due[what]);
        }
        same("wind", x.wind(who), m == null ? -1 : plain.wind(m, plain.blowsNow(), plain.fromNow()));
        same("power", x.power(who), m == null ? -1 : plain.power(m));
        same("carried", x.carried(who), m == null ? -1 : plain.carried(m, null));
        same("home", x.home(), plain.home(null));
    }

    private void lookAtCounts() {
        int[] due = {plain.mills.size(), plain.step, plain.blowsNow(), plain.fromNow(), plain.priceNow(), plain.allPower(),
            plain.sold, plain.bits(false), plain.bits(true), plain.day.size(), plain.seen.size(), past.size(), 0};
        for (int what = 0; what < due.length; what++) {
            same("count " + what, x.count(what), due[what]);
        }
    }

    private void lookAhead(int who, PlainPark.Mill m) {
        int steps = below(64) - 1;
        PlainPark p = plain.copy();
        p.sold = 0;
        for (int i = 0; i < steps; i++) {
            p.doStep();
        }
        same("later", x.later(steps), steps < 0 || steps > 60 ? -1 : p.home(null));
        same("total", x.total(steps), steps < 1 || steps > 60 ? -1000000 : p.sold);
        same("breaks", x.breaks(who), m == null ? -1 : plain.breaks(who));
        same("lost", x.lost(), plain.allPower() - plain.home(null));
    }

    private void lookForBest(int n) {
        same("idle", x.idle(), plain.idle());
        same("straight", x.straight(), plain.straight());
        for (int owner = 1; owner <= 2; owner++) {
            row("alone", n, n <= 4 || below(10) == 0 ? plain.best(owner) : null, owner);
        }
        row("best", n, n <= 4 || below(10) == 0 ? plain.best(0) : null, 0);
    }

    private void row(String what, int n, int[] due, int owner) {
        for (int i = -1; due != null && i <= n; i++) {
            int got = owner == 0 ? x.best(i) : x.alone(owner, i);
            same(what + " " + i, got, i < n ? due[i + 1] : owner == 0 ? -1000000 : -2);
        }
    }

    private void lookAtCables(int who, PlainPark.Mill m) {
        int full = 0;
        int dear = -1;
        for (int i = 0; i < plain.mills.size(); i++) {
            PlainPark.Mill one = plain.mills.get(i);
            if (one.cabled) {
                full |= plain.carried(one, null) == one.holds ? 1 << i : 0;
                dear = dear < 0 || plain.home(one) < plain.home(plain.mills.get(dear)) ? i : dear;
            }
        }
        same("full", x.full(), full);
        same("dear", x.dear(), dear);
        same("fault", x.fault(who), m == null || !m.cabled ? -1 : plain.home(m));
        int hops = 0;
        for (PlainPark.Mill at = m; at != null && at.cabled; at = at.goal) {
            hops++;
        }
        same("hops", x.hops(who), m == null ? -1 : hops);
    }

    private void lookAtWinds(int who, PlainPark.Mill m) {
        int power = below(12) == 0 ? below(105) - 2 : m == null ? 0 : plain.power(m, below(31), below(4));
        if (below(4) == 0) {
            boolean can = m != null && power >= 0 && power <= 99 && plain.seen.size() < 8;
            same("see", x.see(who, power) ? 1 : 0, can ? 1 : 0);
            if (can) {
                plain.seen.add(new int[] {who, power});
            }
        }
        for (int what = -1; what <= 4; what++) {
            same("winds " + what, x.winds(what), plain.winds(what));
        }
        same("ask", x.ask(), plain.ask());
        int odds = below(13) - 1;
        boolean can = m != null && power >= 1 && power <= 99 && odds >= 0 && odds <= 10;
        same("chance", x.chance(who, power, odds), can ? plain.chance(who, power, odds) : -1);
    }

    private void lookAtWakes(int who, PlainPark.Mill m) {
        int front = 0;
        int shade = 0;
        int side = plain.fromNow();
        for (int i = 0; i < plain.mills.size(); i++) {
            PlainPark.Mill other = plain.mills.get(i);
            front |= plain.taken(other, side) == 0 ? 1 << i : 0;
            int takes = m == null ? 0 : plain.takes(m, other, side);
            shade |= takes > 0 ? 1 << i : 0;
            same("takes", x.takes(who, i), m == null || m == other ? -1 : takes);
        }
        same("front", x.front(), front);
        same("shade", x.shade(who), m == null ? -1 : shade);
        for (int owner = 0; owner <= 3; owner++) {
            same("robbed", x.robbed(owner), owner == 1 || owner == 2 ? plain.robbed(owner) : -1);
        }
    }
}
