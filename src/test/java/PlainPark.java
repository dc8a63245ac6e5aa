import java.util.ArrayList;
import java.util.Arrays;
import java.util.List;
import java.util.regex.Matcher;
import java.util.regex.Pattern;

/** The document once more, as slowly and plainly as can be, to be held against the class. */
final class PlainPark {
    private static final List<String> KEPT = List.of("turbine", "of", "at", "cable", "to", "home", "holds", "blows", "from",
        "price", "wakes", "wears", "slack", "gives", "turn", "shut", "open", "mend", "step", "plain", "tall", "old", "small",
        "not", "and", "or");
    private static final List<String> KINDS = List.of("plain", "tall", "old", "small");
    private static final List<String> FACTS = List.of("wind", "worn", "angle", "night");
    private static final Pattern TOKEN = Pattern.compile("[a-z]+|[0-9]+|[^\\n ]");

    interface Law {
        int of(int[] facts);
    }

    static final class Wrong extends RuntimeException {
        private static final long serialVersionUID = 1;
        final int fault;

        Wrong(int fault) {
            this.fault = fault;
        }
    }

    static final class Token {
        final String text;
        final int place;
        final char type;

        Token(String text, int place, char type) {
            this.text = text;
            this.place = place;
            this.type = type;
        }
    }

    static final class Mill {
        String name;
        String kind;
        int owner;
        int cell;
        boolean cabled;
        Mill goal;
        int holds;
        int angle = 2;
        boolean open = true;
        boolean broken;
        int worn;

        boolean runs() {
            return open && !broken;
        }

        int turned() {
            return Math.abs(angle - 2);
        }
    }

    List<Mill> mills = new ArrayList<>();
    List<Integer> blows = List.of(10);
    List<Integer> from = List.of(0);
    List<Integer> price = List.of(10);
    int[] wakes = {5, 3, 1};
    int wears = 20;
    int slack = 6;
    Law law = facts -> facts[0];
    int step;
    int sold;
    List<String[]> day = new ArrayList<>();
    List<int[]> seen = new ArrayList<>();

    private List<Token> tokens;
    private int next;

    static List<Token> tokens(String text) {
        List<Token> all = new ArrayList<>();
        Matcher m = TOKEN.matcher(text);
        while (m.find()) {
            String t = m.group();
            char c = t.charAt(0);
            char type = c >= 'a' && c <= 'z' ? (t.length() > 8 ? '?' : 'w')
                : c >= '0' && c <= '9' ? (t.length() > 4 ? '?' : 'n') : "()<=+-*;".indexOf(c) >= 0 ? c : '?';
            all.add(new Token(t, m.start(), type));
        }
        all.add(new Token("", text.length(), '$'));
        return all;
    }

    private Token peek() {
        return tokens.get(next);
    }

    private Wrong wrong(int kind) {
        return new Wrong(kind + 16 * peek().place);
    }

    private void need(boolean so, int kind) {
        if (!so) {
            throw wrong(kind);
        }
    }

    private boolean at(String word) {
        return peek().type == 'w' && peek().text.equals(word);
    }

    private void pass(String text) {
        need(peek().text.equals(text) && peek().type != '?', 1);
        next++;
    }

    private int number(int low, int high) {
        need(peek().type == 'n', 1);
        int value = Integer.parseInt(peek().text);
        need(value >= low && value <= high, 4);
        return value;
    }

    private int passNumber(int low, int high) {
        int value = number(low, high);
        next++;
        return value;
    }

    private void needName() {
        need(peek().type == 'w' && !KEPT.contains(peek().text), 1);
    }

    private Mill find(String name) {
        for (Mill m : mills) {
            if (m.name.equals(name)) {
                return m;
            }
        }
        return null;
    }

    /** The PARK of a text, or Wrong. */
    static PlainPark read(String text) {
        PlainPark p = new PlainPark();
        p.tokens = tokens(text);
        List<String> told = new ArrayList<>();
        while (p.peek().type != '$') {
            String word = p.peek().type == 'w' ? p.peek().text : "";
            p.need(List.of("turbine", "cable", "blows", "from", "price", "wakes", "wears", "slack", "gives").contains(word), 1);
            if (word.equals("turbine")) {
                p.need(p.mills.size() < 6, 5);
                p.next++;
                p.readMill();
            } else if (word.equals("cable")) {
                p.next++;
                p.readCable();
            } else {
                p.need(!told.contains(word), 3);
                told.add(word);
                p.next++;
                p.readRest(word);
            }
            p.pass(";");
        }
        return p;
    }

    private void readMill() {
        Mill m = new Mill();
        needName();
        need(find(peek().text) == null, 3);
        m.name = peek().text;
        next++;
        need(peek().type == 'w' && KINDS.contains(peek().text), 1);
        m.kind = peek().text;
        next++;
        pass("of");
        m.owner = passNumber(1, 2);
        pass("at");
        m.cell = number(0, 35);
        for (Mill other : mills) {
            need(other.cell != m.cell, 3);
        }
        next++;
        mills.add(m);
    }

    private void readCable() {
        needName();
        Mill m = find(peek().text);
        need(m != null, 2);
        need(!m.cabled, 3);
        next++;
        Mill goal = null;
        if (at("home")) {
            next++;
        } else {
            pass("to");
            needName();
            goal = find(peek().text);
            need(goal != null && goal != m && goal.cabled, 2);
            next++;
        }
        pass("holds");
        m.holds = passNumber(1, 200);
        m.goal = goal;
        m.cabled = true;
    }

    private void readRest(String word) {
        switch (word) {
            case "blows":
                blows = list(30);
                break;
            case "from":
                from = list(3);
                break;
            case "price":
                price = list(20);
                break;
            case "wakes":
                wakes = new int[] {passNumber(0, 9), passNumber(0, 9), passNumber(0, 9)};
                break;
            case "wears":
                wears = passNumber(1, 99);
                break;
            case "slack":
                slack = passNumber(1, 12);
                break;
            default:
                law = readE(0);
                break;
        }
    }

    private List<Integer> list(int high) {
        List<Integer> all = new ArrayList<>();
        all.add(passNumber(0, high));
        while (peek().type == 'n') {
            number(0, high);
            need(all.size() < 8, 5);
            all.add(passNumber(0, high));
        }
        return all;
    }

    private Law readE(int depth) {
        Law left = readTest(depth);
        while (at("and") || at("or")) {
            boolean and = at("and");
            next++;
            Law l = left;
            Law r = readTest(depth);
            left = and ? f -> l.of(f) != 0 & r.of(f) != 0 ? 1 : 0 : f -> l.of(f) != 0 | r.of(f) != 0 ? 1 : 0;
        }
        return left;
    }

    private Law readTest(int depth) {
        Law l = readSum(depth);
        if (peek().type == '<') {
            next++;
            Law r = readSum(depth);
            return f -> l.of(f) < r.of(f) ? 1 : 0;
        }
        if (peek().type == '=') {
            next++;
            Law r = readSum(depth);
            return f -> l.of(f) == r.of(f) ? 1 : 0;
        }
        return l;
    }

    private Law readSum(int depth) {
        Law left = readProduct(depth);
        while (peek().type == '+' || peek().type == '-') {
            boolean plus = peek().type == '+';
            next++;
            Law l = left;
            Law r = readProduct(depth);
            left = plus ? f -> l.of(f) + r.of(f) : f -> l.of(f) - r.of(f);
        }
        return left;
    }

    private Law readProduct(int depth) {
        Law left = readPart(depth);
        while (peek().type == '*') {
            next++;
            Law l = left;
            Law r = readPart(depth);
            left = f -> l.of(f) * r.of(f);
        }
        return left;
    }

    private Law readPart(int depth) {
        Token t = peek();
        int fact = t.type == 'w' ? FACTS.indexOf(t.text) : -1;
        need(t.type == 'n' || t.type == '(' || at("not") || fact >= 0, 1);
        need(depth < 5, 5);
        next++;
        if (t.type == 'n') {
            int value = Integer.parseInt(t.text);
            return f -> value;
        }
        if (t.type == '(') {
            Law e = readE(depth + 1);
            pass(")");
            return e;
        }
        if (fact >= 0) {
            return f -> f[fact];
        }
        Law part = readPart(depth + 1);
        return f -> part.of(f) == 0 ? 1 : 0;
    }

    /** 0, or the FAULT of a DAY. */
    int readDay(String text) {
        tokens = tokens(text);
        next = 0;
        List<String[]> lines = new ArrayList<>();
        try {
            while (peek().type != '$') {
                need(at("turn") || at("shut") || at("open") || at("mend") || at("step"), 1);
                need(lines.size() < 40, 5);
                String deed = peek().text;
                next++;
                String who = "";
                String angle = "0";
                if (!deed.equals("step")) {
                    needName();
                    who = peek().text;
                    need(find(who) != null, 2);
                    next++;
                }
                if (deed.equals("turn")) {
                    angle = "" + passNumber(0, 4);
                }
                pass(";");
                lines.add(new String[] {deed, who, angle});
            }
        } catch (Wrong w) {
            return w.fault;
        }
        day = lines;
        return 0;
    }

    PlainPark copy() {
        PlainPark p = new PlainPark();
        for (Mill m : mills) {
            Mill c = new Mill();
            c.name = m.name;
            c.kind = m.kind;
            c.owner = m.owner;
            c.cell = m.cell;
            c.cabled = m.cabled;
            c.holds = m.holds;
            c.angle = m.angle;
            c.open = m.open;
            c.broken = m.broken;
            c.worn = m.worn;
            p.mills.add(c);
        }
        for (int i = 0; i < mills.size(); i++) {
            Mill goal = mills.get(i).goal;
            p.mills.get(i).goal = goal == null ? null : p.mills.get(mills.indexOf(goal));
        }
        p.blows = blows;
        p.from = from;
        p.price = price;
        p.wakes = wakes;
        p.wears = wears;
        p.slack = slack;
        p.law = law;
        p.step = step;
        p.sold = sold;
        p.day = day;
        p.seen = new ArrayList<>(seen);
        return p;
    }

    PlainPark fresh() {
        PlainPark p = copy();
        for (Mill m : p.mills) {
            m.angle = 2;
            m.open = true;
            m.broken = false;
            m.worn = 0;
        }
        p.step = 0;
        p.sold = 0;
        return p;
    }

    int blowsNow() {
        return blows.get(step % blows.size());
    }

    int fromNow() {
        return from.get(step % from.size());
    }

    int priceNow() {
        return price.get(step % price.size()) - 10;
    }

    /** The tenths that one takes, laid on the sea. */
    int[][] wake(Mill m, int side) {
        int[][] sea = new int[6][6];
        if (!m.runs()) {
            return sea;
        }
        int[] down = {1, 0, -1, 0};
        int[] right = {0, -1, 0, 1};
        for (int off = 1; off <= 3; off++) {
            int row = m.cell / 6 + down[side] * off;
            int column = m.cell % 6 + right[side] * off;
            boolean aside = m.turned() == 2 || m.turned() == 1 && off >= 2;
            if (aside) {
                int way = m.angle <= 1 ? -1 : 1;
                if (side % 2 == 0) {
                    column += way;
                } else {
                    row += way;
                }
            }
            if (row >= 0 && row < 6 && column >= 0 && column < 6) {
                sea[row][column] = Math.max(0, m.kind.equals("small") ? wakes[off - 1] - 1 : wakes[off - 1]);
            }
        }
        return sea;
    }

    int takes(Mill m, Mill other, int side) {
        return wake(m, side)[other.cell / 6][other.cell % 6];
    }

    int taken(Mill m, int side) {
        int all = 0;
        for (Mill other : mills) {
            all += takes(other, m, side);
        }
        all = Math.min(all, 9);
        return m.kind.equals("tall") ? Math.max(all - 1, 0) : all;
    }

    int wind(Mill m, int blow, int side) {
        return blow * (10 - taken(m, side)) / 10;
    }

    int power(Mill m, int blow, int side) {
        if (!m.runs()) {
            return 0;
        }
        int night = step % 12 >= 6 ? 1 : 0;
        int gives = law.of(new int[] {wind(m, blow, side), m.worn, m.turned(), night});
        gives = gives < 0 ? 0 : gives > 99 ? 99 : gives;
        return m.turned() == 0 ? gives : m.turned() == 1 ? gives * 9 / 10 : gives * 6 / 10;
    }

    int power(Mill m) {
        return power(m, blowsNow(), fromNow());
    }

    int carried(Mill m, Mill failing) {
        if (!m.cabled || m == failing) {
            return 0;
        }
        int all = power(m);
        for (Mill other : mills) {
            if (other.goal == m) {
                all += carried(other, failing);
            }
        }
        return Math.min(all, m.holds);
    }

    int home(Mill failing) {
        int all = 0;
        for (Mill m : mills) {
            if (m.cabled && m.goal == null) {
                all += carried(m, failing);
            }
        }
        return all;
    }

    int allPower() {
        int all = 0;
        for (Mill m : mills) {
            all += power(m);
        }
        return all;
    }

    int sale() {
        return home(null) * priceNow();
    }

    int doStep() {
        int sale = sale();
        int[] taken = new int[mills.size()];
        for (int i = 0; i < taken.length; i++) {
            taken[i] = taken(mills.get(i), fromNow());
        }
        for (int i = 0; i < taken.length; i++) {
            Mill m = mills.get(i);
            if (m.runs()) {
                int more = m.turned() + (taken[i] > 0 ? 1 : 0);
                m.worn += m.kind.equals("old") ? 2 * more : more;
            }
            if (m.worn >= wears) {
                m.broken = true;
            }
        }
        sold += sale;
        step++;
        return sale;
    }

    boolean act(String deed, Mill m, int angle) {
        switch (deed) {
            case "turn":
                m.angle = angle;
                return true;
            case "shut":
                if (!m.open) {
                    return false;
                }
                m.open = false;
                return true;
            case "open":
                if (m.open) {
                    return false;
                }
                m.open = true;
                return true;
            case "mend":
                if (!m.broken || step % slack != 0) {
                    return false;
                }
                m.broken = false;
                m.worn = 0;
                return true;
            default:
                doStep();
                return true;
        }
    }

    int bits(boolean broken) {
        int bits = 0;
        for (int i = 0; i < mills.size(); i++) {
            if (broken ? mills.get(i).broken : mills.get(i).open) {
                bits |= 1 << i;
            }
        }
        return bits;
    }

    int judged(int what) {
        PlainPark p = fresh();
        int cannot = -1;
        int breaks = -1;
        for (int i = 0; i < day.size(); i++) {
            String[] line = day.get(i);
            int before = Integer.bitCount(p.bits(true));
            boolean done = p.act(line[0], p.find(line[1]), Integer.parseInt(line[2]));
            if (!done && cannot < 0) {
                cannot = i;
            }
            if (line[0].equals("step") && Integer.bitCount(p.bits(true)) > before && breaks < 0) {
                breaks = i;
            }
        }
        return what == 0 ? cannot : what == 1 ? breaks : what == 2 ? p.sold : -1000000;
    }

    int breaks(int turbine) {
        PlainPark p = copy();
        if (p.mills.get(turbine).broken) {
            return -1;
        }
        for (int n = 1; n <= 100; n++) {
            p.doStep();
            if (p.mills.get(turbine).broken) {
                return n;
            }
        }
        return -1;
    }

    /** The most, then the row of angles; owner 0 is for all. */
    int[] best(int owner) {
        PlainPark p = copy();
        int[] found = new int[p.mills.size() + 1];
        found[0] = Integer.MIN_VALUE;
        p.tryAll(0, owner, found);
        return found;
    }

    private void tryAll(int i, int owner, int[] found) {
        if (i == mills.size()) {
            int value = 0;
            if (owner == 0) {
                value = sale();
            } else {
                for (Mill m : mills) {
                    value += m.owner == owner ? power(m) : 0;
                }
            }
            if (value > found[0]) {
                found[0] = value;
                for (int k = 0; k < mills.size(); k++) {
                    found[k + 1] = mills.get(k).angle;
                }
            }
            return;
        }
        Mill m = mills.get(i);
        if (owner != 0 && m.owner != owner) {
            tryAll(i + 1, owner, found);
            return;
        }
        int kept = m.angle;
        for (m.angle = 0; m.angle < 5; m.angle++) {
            tryAll(i + 1, owner, found);
        }
        m.angle = kept;
    }

    int idle() {
        PlainPark p = copy();
        int whole = (1 << mills.size()) - 1 - bits(true);
        int most = Integer.MIN_VALUE;
        int least = 0;
        for (int set = 0; set < 64; set++) {
            if ((set | whole) != whole) {
                continue;
            }
            for (int i = 0; i < mills.size(); i++) {
                if (!mills.get(i).broken) {
                    p.mills.get(i).open = (set >> i & 1) == 0;
                }
            }
            if (p.sale() > most) {
                most = p.sale();
                least = set;
            }
        }
        return least;
    }

    int straight() {
        PlainPark p = copy();
        for (Mill m : p.mills) {
            m.angle = 2;
        }
        return p.sale() - sale();
    }

    int robbed(int owner) {
        PlainPark p = copy();
        for (Mill m : p.mills) {
            m.open = m.open && m.owner == owner;
        }
        int more = 0;
        for (int i = 0; i < mills.size(); i++) {
            Mill m = mills.get(i);
            if (m.owner == owner && m.runs()) {
                more += p.wind(p.mills.get(i), blowsNow(), fromNow()) - wind(m, blowsNow(), fromNow());
            }
        }
        return more;
    }

    List<int[]> winds() {
        List<int[]> all = new ArrayList<>();
        for (int side = 0; side < 4; side++) {
            for (int blow = 0; blow <= 30; blow++) {
                boolean so = true;
                for (int[] s : seen) {
                    so &= power(mills.get(s[0]), blow, side) == s[1];
                }
                if (so) {
                    all.add(new int[] {blow, side});
                }
            }
        }
        return all;
    }

    int winds(int what) {
        List<int[]> all = winds();
        if (what == 0) {
            return all.size();
        }
        int bits = 0;
        int low = 99;
        int high = -1;
        for (int[] w : all) {
            bits |= 1 << w[1];
            low = Math.min(low, w[0]);
            high = Math.max(high, w[0]);
        }
        return what == 3 ? bits : what < 0 || what > 3 || all.isEmpty() ? -1 : what == 1 ? low : high;
    }

    int ask() {
        List<int[]> all = winds();
        int asked = -1;
        int least = all.size();
        for (int i = 0; i < mills.size(); i++) {
            int[] tally = new int[100];
            for (int[] w : all) {
                tally[power(mills.get(i), w[0], w[1])]++;
            }
            int most = Arrays.stream(tally).max().getAsInt();
            if (most < least) {
                least = most;
                asked = i;
            }
        }
        return asked;
    }

    int chance(int turbine, int power, int odds) {
        long parts = 0;
        for (int side = 0; side < 4; side++) {
            parts += power(mills.get(turbine), blowsNow(), side) >= power ? odds : 0;
            parts += power(mills.get(turbine), blowsNow() / 2, side) >= power ? 10 - odds : 0;
        }
        return (int) (parts * 1000000 / 40);
    }

    int days(int seed, int steps, int what) {
        PlainPark p = copy();
        long[] g = {seed};
        p.sold = 0;
        String[] deeds = {"turn", "shut", "open", "mend"};
        for (int i = 0; i < steps; i++) {
            if (!p.mills.isEmpty()) {
                Mill m = p.mills.get(draw(g, p.mills.size()));
                int deed = draw(g, 6);
                int angle = deed == 0 ? draw(g, 5) : 0;
                if (deed < 4) {
                    p.act(deeds[deed], m, angle);
                }
            }
            p.doStep();
        }
        return what == 0 ? p.sold : what == 1 ? p.bits(true) : p.home(null);
    }

    private static int draw(long[] g, int m) {
        g[0] = (g[0] * 1103515245L + 12345L) % 2147483648L;
        return (int) (g[0] / 65536 % m);
    }
}
