import java.util.Arrays;
import java.util.NoSuchElementException;

/** A park of turbines at sea, told as texts, run by steps of ten minutes. */
public final class WakePark {
    public static final int NONE = -1;

    private static final int NO_SUM = -1000000;
    private static final int NO_FACT = -2;
    private static final int NOTHING_FAILS = -1;

    private static final int TAPE_ROOM = 1000;
    private static final int MOST_TURBINES = 6;
    private static final int MOST_CABLES = 6;
    private static final int MOST_TOLD = 8;
    private static final int MOST_LINES = 40;
    private static final int MOST_SEEN = 8;
    private static final int MOST_UNDONE = 16;
    private static final int MOST_POWER = 99;
    private static final int MARKS = 4;

    private static final int SIDE = 6;
    private static final int CELLS = 36;
    private static final int REACH = 3;
    private static final int MOST_TAKEN = 9;
    private static final int HOMEWARD = 6;
    private static final int ANGLES = 5;
    private static final int STRAIGHT = 2;
    private static final int ROWS_OF_ANGLES = 15625;

    private static final int TALL = 1;
    private static final int OLD = 2;
    private static final int SMALL = 3;

    private static final int NORTH = 0;
    private static final int EAST = 1;
    private static final int SOUTH = 2;
    private static final int SIDES = 4;
    private static final int STRENGTHS = 31;
    private static final int ALL_WINDS = SIDES * STRENGTHS;

    private static final int TO_TURN = 0;
    private static final int TO_SHUT = 1;
    private static final int TO_OPEN = 2;
    private static final int TO_MEND = 3;
    private static final int TO_STEP = 4;

    private static final Word[] WORDS = Word.values();

    private final Tape tape = new Tape();
    private Park park = new Park();
    private final Reader reader = new Reader(tape, park);
    private Park spare = new Park();
    private final State now = new State();
    private final State trial = new State();
    private final State[] past = new State[MOST_UNDONE];
    private int pastNext;
    private int pastSize;
    private final Numbers lines = new Numbers(MOST_LINES);
    private final Numbers sights = new Numbers(MOST_SEEN);
    private final Mark[] marks = new Mark[MARKS];
    private final Flow flow = new Flow();
    private final Search[] searches = new Search[3];
    private final Winds guesses = new Winds();

    public WakePark() {
        now.begin(park);
        for (int i = 0; i < past.length; i++) {
            past[i] = new State();
        }
        for (int i = 0; i < marks.length; i++) {
            marks[i] = new Mark();
        }
        for (int i = 0; i < searches.length; i++) {
            searches[i] = new Search();
        }
    }

    public int feed(long a, long b, long c) {
        tape.put(a);
        tape.put(b);
        tape.put(c);
        return tape.length;
    }

    public int park() {
        int wrong = reader.readPark(spare);
        if (wrong != 0) {
            return wrong;
        }
        Park old = park;
        park = spare;
        spare = old;
        now.begin(park);
        lines.size = 0;
        sights.size = 0;
        for (int i = 0; i < marks.length; i++) {
            marks[i].laid = false;
        }
        forgetPast();
        forgetSearches();
        return 0;
    }

    public int day() {
        return reader.readDay(park, lines);
    }

    public int turbine(int turbine, int what) {
        if (!stands(turbine)) {
            return NO_FACT;
        }
        switch (what) {
            case 0: return park.kinds[turbine];
            case 1: return park.owners[turbine];
            case 2: return park.cells[turbine];
            case 3: return now.angles[turbine];
            case 4: return now.isOpen(turbine) ? 1 : 0;
            case 5: return now.isBroken(turbine) ? 1 : 0;
            case 6: return now.worn[turbine];
            case 7: return park.cableTo[turbine];
            case 8: return park.holds[turbine];
            default: return NO_FACT;
        }
    }

    public int wind(int turbine) {
        if (!stands(turbine)) {
            return NONE;
        }
        flow.measure(park, now);
        return flow.reach[turbine];
    }

    public int power(int turbine) {
        if (!stands(turbine)) {
            return NONE;
        }
        flow.measure(park, now);
        return flow.given[turbine];
    }

    public int carried(int turbine) {
        if (!stands(turbine)) {
            return NONE;
        }
        flow.measure(park, now);
        return flow.loads[turbine];
    }

    public int home() {
        flow.measure(park, now);
        return flow.brought;
    }

    public int turn(int turbine, int angle) {
        if (!stands(turbine) || angle < 0 || angle >= ANGLES) {
            return NONE;
        }
        int before = now.angles[turbine];
        act(TO_TURN, turbine, angle);
        return before;
    }

    public boolean shut(int turbine) {
        return act(TO_SHUT, turbine, 0);
    }

    public boolean open(int turbine) {
        return act(TO_OPEN, turbine, 0);
    }

    public boolean mend(int turbine) {
        return act(TO_MEND, turbine, 0);
    }

    public int step() {
        remember();
        return flow.runStep(park, now);
    }

    public boolean undo() {
        if (pastSize <= 0) {
            return false;
        }
        pastSize--;
        pastNext = Math.floorMod(pastNext - 1, MOST_UNDONE);
        now.copy(past[pastNext]);
        forgetSearches();
        return true;
    }

    public int judged(int what) {
        if (what < 0 || what > 2) {
            return NO_SUM;
        }
        int cannot = NONE;
        int breaking = NONE;
        trial.begin(park);
        for (int i = 0; i < lines.size; i++) {
            int line = lines.get(i);
            int deed = line / 100;
            int before = trial.broken;
            if (deed == TO_STEP) {
                flow.runStep(park, trial);
                breaking = breaking == NONE && trial.broken != before ? i : breaking;
            } else if (!trial.act(park, deed, line / 10 % 10, line % 10) && cannot == NONE) {
                cannot = i;
            }
        }
        return what == 0 ? cannot : what == 1 ? breaking : trial.sold;
    }

    public int takes(int turbine, int other) {
        if (!stands(turbine) || !stands(other) || turbine == other) {
            return NONE;
        }
        return takenNow(turbine, other);
    }

    public int later(int steps) {
        if (steps < 0 || steps > 60) {
            return NONE;
        }
        trial.copy(now);
        for (int i = 0; i < steps; i++) {
            flow.runStep(park, trial);
        }
        flow.measure(park, trial);
        return flow.brought;
    }

    public int total(int steps) {
        if (steps < 1 || steps > 60) {
            return NO_SUM;
        }
        trial.copy(now);
        int sold = 0;
        for (int i = 0; i < steps; i++) {
            sold += flow.runStep(park, trial);
        }
        return sold;
    }

    public int breaks(int turbine) {
        if (!stands(turbine) || now.isBroken(turbine)) {
            return NONE;
        }
        trial.copy(now);
        for (int steps = 1; steps <= 100; steps++) {
            flow.runStep(park, trial);
            if (trial.isBroken(turbine)) {
                return steps;
            }
        }
        return NONE;
    }

    public int lost() {
        flow.measure(park, now);
        return flow.sum - flow.brought;
    }

    public int best(int what) {
        if (what != NONE && !stands(what)) {
            return NO_SUM;
        }
        return searched(0, what);
    }

    public int alone(int owner, int what) {
        if (owner < 1 || owner > 2 || what != NONE && !stands(what)) {
            return NO_FACT;
        }
        return searched(owner, what);
    }

    public int idle() {
        int whole = now.everyone(park) & ~now.broken;
        trial.copy(now);
        int most = 0;
        int least = NONE;
        for (int set = 0; set <= whole; set++) {
            if ((set & ~whole) != 0) {
                continue;
            }
            trial.opened = now.opened & ~whole | whole & ~set;
            int sold = flow.sold(park, trial);
            if (least == NONE || sold > most) {
                most = sold;
                least = set;
            }
        }
        return least;
    }

    public int straight() {
        trial.copy(now);
        Arrays.fill(trial.angles, STRAIGHT);
        return flow.sold(park, trial) - flow.sold(park, now);
    }

    public int full() {
        flow.measure(park, now);
        int bits = 0;
        for (int i = 0; i < park.count; i++) {
            if (park.cableTo[i] != NONE && flow.loads[i] == park.holds[i]) {
                bits |= 1 << i;
            }
        }
        return bits;
    }

    public int dear() {
        int dearest = NONE;
        int least = 0;
        flow.measure(park, now);
        for (int i = 0; i < park.count; i++) {
            if (park.cableTo[i] != NONE) {
                flow.bring(park, i);
                if (dearest == NONE || flow.brought < least) {
                    dearest = i;
                    least = flow.brought;
                }
            }
        }
        return dearest;
    }

    public int fault(int turbine) {
        if (!stands(turbine) || park.cableTo[turbine] == NONE) {
            return NONE;
        }
        flow.measure(park, now);
        flow.bring(park, turbine);
        return flow.brought;
    }

    public int robbed(int owner) {
        if (owner < 1 || owner > 2) {
            return NONE;
        }
        int left = ownWind(now, owner);
        trial.copy(now);
        for (int i = 0; i < park.count; i++) {
            if (park.owners[i] != owner) {
                trial.opened &= ~(1 << i);
            }
        }
        return ownWind(trial, owner) - left;
    }

    public int front() {
        flow.measure(park, now);
        int bits = 0;
        for (int i = 0; i < park.count; i++) {
            if (flow.taken[i] == 0) {
                bits |= 1 << i;
            }
        }
        return bits;
    }

    public int shade(int turbine) {
        if (!stands(turbine)) {
            return NONE;
        }
        int bits = 0;
        for (int i = 0; i < park.count; i++) {
            if (i != turbine && takenNow(turbine, i) > 0) {
                bits |= 1 << i;
            }
        }
        return bits;
    }

    public int hops(int turbine) {
        if (!stands(turbine)) {
            return NONE;
        }
        int at = turbine;
        int cables = 0;
        for (int n = 0; n < MOST_CABLES && stands(at) && park.cableTo[at] != NONE; n++) {
            cables++;
            at = park.cableTo[at];
        }
        return cables;
    }

    public boolean see(int turbine, int power) {
        if (!stands(turbine) || power < 0 || power > MOST_POWER) {
            return false;
        }
        return sights.add(turbine * (MOST_POWER + 1) + power);
    }

    public int winds(int what) {
        guesses.guess(park, now, flow, sights);
        switch (what) {
            case 0: return guesses.fitting;
            case 1: return guesses.least;
            case 2: return guesses.greatest;
            case 3: return guesses.sides;
            default: return NONE;
        }
    }

    public int ask() {
        guesses.guess(park, now, flow, sights);
        int asked = NONE;
        int least = guesses.fitting;
        for (int i = 0; i < park.count; i++) {
            int left = guesses.mostAlike(i);
            if (left < least) {
                least = left;
                asked = i;
            }
        }
        return asked;
    }

    public int chance(int turbine, int power, int odds) {
        if (!stands(turbine) || power < 1 || power > MOST_POWER || odds < 0 || odds > 10) {
            return NONE;
        }
        int blows = park.blows.round(now.step);
        int fortieths = 0;
        for (int from = 0; from < SIDES; from++) {
            flow.take(park, now, from);
            flow.give(park, now, blows);
            fortieths += flow.given[turbine] >= power ? odds : 0;
            flow.give(park, now, blows / 2);
            fortieths += flow.given[turbine] >= power ? 10 - odds : 0;
        }
        return fortieths * 25000;
    }

    public int rests(int lose, int turns, int stays, int what) throws NoSuchElementException {
        if (!isDigit(lose) || !isDigit(turns) || !isDigit(stays) || what < NONE) {
            throw new NoSuchElementException();
        }
        int found = 0;
        for (int pair = 0; pair < 4; pair++) {
            int one = pair >> 1;
            int other = pair & 1;
            if (keeps(one, other, lose, turns, stays) && keeps(other, one, lose, turns, stays)) {
                if (found == what) {
                    return pair;
                }
                found++;
            }
        }
        if (what != NONE) {
            throw new NoSuchElementException();
        }
        return found;
    }

    public int days(int seed, int steps, int what) {
        if (seed < 0 || seed > 9999 || steps < 1 || steps > 99 || what < 0 || what > 2) {
            return NO_SUM;
        }
        trial.copy(now);
        int sold = 0;
        long g = seed;
        for (int i = 0; i < steps; i++) {
            if (park.count > 0) {
                g = drawn(g);
                int who = below(g, park.count);
                g = drawn(g);
                int deed = below(g, 6);
                int angle = STRAIGHT;
                if (deed == TO_TURN) {
                    g = drawn(g);
                    angle = below(g, ANGLES);
                }
                if (deed <= TO_MEND) {
                    trial.act(park, deed, who, angle);
                }
            }
            sold += flow.runStep(park, trial);
        }
        flow.measure(park, trial);
        return what == 0 ? sold : what == 1 ? trial.broken : flow.brought;
    }

    public boolean mark(int mark, boolean back) {
        if (mark < 0 || mark >= marks.length) {
            return false;
        }
        Mark held = marks[mark];
        if (!back) {
            held.lay(now, lines, sights);
            return true;
        }
        if (!held.laid) {
            return false;
        }
        now.copy(held.state);
        lines.copy(held.lines);
        sights.copy(held.sights);
        forgetPast();
        forgetSearches();
        return true;
    }

    public int count(int what) {
        switch (what) {
            case 0: return park.count;
            case 1: return now.step;
            case 2: return park.blows.round(now.step);
            case 3: return park.from.round(now.step);
            case 4: return park.priceAt(now.step);
            case 5:
                flow.measure(park, now);
                return flow.sum;
            case 6: return now.sold;
            case 7: return now.opened;
            case 8: return now.broken;
            case 9: return lines.size;
            case 10: return sights.size;
            case 11: return pastSize;
            case 12: return tape.length;
            default: return NO_SUM;
        }
    }

    private boolean stands(int turbine) {
        return turbine >= 0 && turbine < park.count;
    }

    private boolean act(int deed, int turbine, int angle) {
        if (!now.can(park, deed, turbine)) {
            return false;
        }
        remember();
        return now.act(park, deed, turbine, angle);
    }

    private void remember() {
        past[pastNext].copy(now);
        pastNext = (pastNext + 1) % MOST_UNDONE;
        pastSize = Math.min(pastSize + 1, MOST_UNDONE);
        forgetSearches();
    }

    private void forgetPast() {
        pastNext = 0;
        pastSize = 0;
    }

    private void forgetSearches() {
        for (int i = 0; i < searches.length; i++) {
            searches[i].known = false;
        }
    }

    private int takenNow(int turbine, int other) {
        if (!now.runs(turbine)) {
            return 0;
        }
        return park.tenths(turbine, now.angles[turbine], other, park.from.round(now.step));
    }

    private int searched(int owner, int what) {
        Search search = searches[owner];
        if (!search.known) {
            search.seek(park, now, flow, owner);
            search.known = true;
        }
        return what == NONE ? search.most : search.row[what];
    }

    private int ownWind(State state, int owner) {
        flow.measure(park, state);
        int together = 0;
        for (int i = 0; i < park.count; i++) {
            if (park.owners[i] == owner && state.runs(i)) {
                together += flow.reach[i];
            }
        }
        return together;
    }

    private static boolean isDigit(int number) {
        return number >= 0 && number <= 9;
    }

    private static boolean keeps(int mine, int other, int lose, int turns, int stays) {
        return gain(mine, other, lose, turns, stays) >= gain(1 - mine, other, lose, turns, stays);
    }

    private static int gain(int mine, int other, int lose, int turns, int stays) {
        if (mine == 1) {
            return other == 1 ? -lose : turns;
        }
        return other == 1 ? stays : 0;
    }

    private static long drawn(long g) {
        return (g * 1103515245L + 12345L) % 2147483648L;
    }

    private static int below(long g, int limit) {
        return limit > 0 ? (int) (g / 65536L % limit) : 0;
    }

    /** The words that the texts know; a NAME may be one of those that are free. */
    private enum Word {
        TURBINE("turbine", false), OF("of", false), AT("at", false), CABLE("cable", false), TO("to", false),
        HOME("home", false), HOLDS("holds", false), BLOWS("blows", false), FROM("from", false),
        PRICE("price", false), WAKES("wakes", false), WEARS("wears", false), SLACK("slack", false),
        GIVES("gives", false), TURN("turn", false), SHUT("shut", false), OPEN("open", false),
        MEND("mend", false), STEP("step", false), PLAIN("plain", false), TALL("tall", false),
        OLD("old", false), SMALL("small", false), NOT("not", false), AND("and", false), OR("or", false),
        WIND("wind", true), WORN("worn", true), ANGLE("angle", true), NIGHT("night", true);

        final boolean free;
        final long key;

        /** The key is counted as the tape counts it: five bits a letter. */
        Word(String text, boolean free) {
            this.free = free;
            long packed = 0;
            for (int i = 0; i < text.length(); i++) {
                packed = packed * 32 + (text.charAt(i) - 'a' + 1);
            }
            this.key = packed;
        }
    }

    /** A list of numbers with its room made once. */
    private static final class Numbers {
        final int[] values;
        int size;

        Numbers(int room) {
            values = new int[room > 0 ? room : 0];
        }

        boolean add(int value) {
            if (size >= values.length) {
                return false;
            }
            values[size] = value;
            size++;
            return true;
        }

        int get(int i) {
            return i >= 0 && i < size ? values[i] : 0;
        }

        /** What stands there when the list is told again and again. */
        int round(int step) {
            return size > 0 && step >= 0 ? values[step % size] : 0;
        }

        void copy(Numbers other) {
            size = Math.min(other.size, values.length);
            System.arraycopy(other.values, 0, values, 0, size);
        }
    }

    /** The signs that were fed, and the token that is being looked at. */
    private static final class Tape {
        static final int END = 0;
        static final int WORD = 1;
        static final int NUMBER = 2;
        static final int STRANGE = 3;

        final byte[] signs = new byte[TAPE_ROOM];
        int length;
        int kind;
        int at;
        int value;
        long key;
        /** The known word that is looked at, or null. */
        Word word;
        private int next;

        void put(long eight) {
            for (int shift = 56; shift >= 0; shift -= 8) {
                int sign = (int) (eight >>> shift) & 255;
                boolean fits = sign == '\n' || sign >= ' ' && sign <= '~';
                if (fits && length < signs.length) {
                    signs[length] = (byte) sign;
                    length++;
                }
            }
        }

        void clear() {
            length = 0;
        }

        void start() {
            next = 0;
            pass();
        }

        /** Looks at the token behind this one; a sign's kind is its own number. */
        void pass() {
            int place = next;
            word = null;
            while (place < length && (signs[place] == '\n' || signs[place] == ' ')) {
                place++;
            }
            at = place;
            if (place >= length) {
                kind = END;
                next = length;
            } else if (signs[place] >= 'a' && signs[place] <= 'z') {
                takeWord(place);
            } else if (signs[place] >= '0' && signs[place] <= '9') {
                takeNumber(place);
            } else {
                kind = isSign(signs[place]) ? signs[place] : STRANGE;
                next = place + 1;
            }
        }

        private void takeWord(int first) {
            int place = first;
            key = 0;
            while (place < length && signs[place] >= 'a' && signs[place] <= 'z') {
                key = key * 32 + (signs[place] - 'a' + 1);
                place++;
            }
            kind = place - first <= 8 ? WORD : STRANGE;
            next = place;
            for (int i = 0; kind == WORD && word == null && i < WORDS.length; i++) {
                word = WORDS[i].key == key ? WORDS[i] : null;
            }
        }

        private void takeNumber(int first) {
            int place = first;
            value = 0;
            while (place < length && signs[place] >= '0' && signs[place] <= '9') {
                value = value * 10 + (signs[place] - '0');
                place++;
            }
            kind = place - first <= 4 ? NUMBER : STRANGE;
            next = place;
        }

        private static boolean isSign(int sign) {
            return sign == '(' || sign == ')' || sign == '<' || sign == '=' || sign == '+' || sign == '-'
                || sign == '*' || sign == ';';
        }
    }

    /** What a wind gives: an E, as deeds on a pile; numbers that are not below 0 are laid on it. */
    private static final class Law {
        static final int WIND = -1;
        static final int WORN = -2;
        static final int ANGLE = -3;
        static final int NIGHT = -4;
        static final int NOT = -5;
        static final int AND = -6;
        static final int OR = -7;
        static final int LESS = -8;
        static final int SAME = -9;
        static final int PLUS = -10;
        static final int MINUS = -11;
        static final int TIMES = -12;

        /** A level of brackets keeps four at most, of and, <, +, *; there are five levels. */
        private static final int PILE = 32;

        final Numbers code = new Numbers(TAPE_ROOM);
        private final int[] pile = new int[PILE];

        int value(int wind, int worn, int angle, int night) {
            int top = 0;
            for (int i = 0; i < code.size; i++) {
                int deed = code.get(i);
                if (deed >= NIGHT) {
                    if (top >= pile.length) {
                        return 0;
                    }
                    pile[top] = deed >= 0 ? deed : fact(deed, wind, worn, angle, night);
                    top++;
                } else if (deed == NOT) {
                    if (top < 1) {
                        return 0;
                    }
                    pile[top - 1] = pile[top - 1] == 0 ? 1 : 0;
                } else {
                    if (top < 2) {
                        return 0;
                    }
                    top--;
                    pile[top - 1] = joined(deed, pile[top - 1], pile[top]);
                }
            }
            return top > 0 ? pile[top - 1] : 0;
        }

        private static int fact(int which, int wind, int worn, int angle, int night) {
            switch (which) {
                case WIND: return wind;
                case WORN: return worn;
                case ANGLE: return angle;
                default: return night;
            }
        }

        private static int joined(int deed, int left, int right) {
            switch (deed) {
                case AND: return left != 0 && right != 0 ? 1 : 0;
                case OR: return left != 0 || right != 0 ? 1 : 0;
                case LESS: return left < right ? 1 : 0;
                case SAME: return left == right ? 1 : 0;
                case PLUS: return left + right;
                case MINUS: return left - right;
                default: return left * right;
            }
        }
    }

    /** A PARK as it was told. */
    private static final class Park {
        int count;
        final long[] names = new long[MOST_TURBINES];
        final int[] kinds = new int[MOST_TURBINES];
        final int[] owners = new int[MOST_TURBINES];
        final int[] cells = new int[MOST_TURBINES];
        final int[] cableTo = new int[MOST_TURBINES];
        final int[] holds = new int[MOST_TURBINES];
        /** Whose cables were told, in that order: each goes to one that stands further ahead. */
        final Numbers cables = new Numbers(MOST_CABLES);
        final Numbers blows = new Numbers(MOST_TOLD);
        final Numbers from = new Numbers(MOST_TOLD);
        final Numbers price = new Numbers(MOST_TOLD);
        final Numbers wakes = new Numbers(REACH);
        final Law law = new Law();
        int wears;
        int slack;

        Park() {
            clear();
        }

        /** Empties it; what is not told is as the document says. */
        void clear() {
            count = 0;
            cables.size = 0;
            only(blows, 10);
            only(from, NORTH);
            only(price, 10);
            only(wakes, 5);
            wakes.add(3);
            wakes.add(1);
            only(law.code, Law.WIND);
            wears = 20;
            slack = 6;
        }

        void addTurbine(long name, int kind, int owner, int cell) {
            if (count >= MOST_TURBINES) {
                return;
            }
            names[count] = name;
            kinds[count] = kind;
            owners[count] = owner;
            cells[count] = cell;
            cableTo[count] = NONE;
            holds[count] = 0;
            count++;
        }

        int byName(long name) {
            for (int i = 0; i < count; i++) {
                if (names[i] == name) {
                    return i;
                }
            }
            return NONE;
        }

        boolean isTaken(int cell) {
            for (int i = 0; i < count; i++) {
                if (cells[i] == cell) {
                    return true;
                }
            }
            return false;
        }

        int priceAt(int step) {
            return price.round(step) - 10;
        }

        boolean isSlack(int step) {
            return slack > 0 && step % slack == 0;
        }

        /** How many tenths one that runs takes of another one. */
        int tenths(int turbine, int angle, int other, int side) {
            int south = cells[other] / SIDE - cells[turbine] / SIDE;
            int east = cells[other] % SIDE - cells[turbine] % SIDE;
            boolean along = side == NORTH || side == SOUTH;
            int off = along ? south : east;
            int aside = along ? east : south;
            if (side == SOUTH || side == EAST) {
                off = -off;
            }
            if (off < 1 || off > REACH || aside != drift(angle, off)) {
                return 0;
            }
            return Math.max(wakes.get(off - 1) - (kinds[turbine] == SMALL ? 1 : 0), 0);
        }

        /** What is TAKEN of one by so many tenths of all wakes together. */
        int takenOf(int turbine, int tenths) {
            int most = Math.min(tenths, MOST_TAKEN);
            return kinds[turbine] == TALL ? Math.max(most - 1, 0) : most;
        }

        /** POWER of one that runs, of the wind that reaches it. */
        int gives(int wind, int worn, int angle, int step) {
            int turned = turnedBy(angle);
            int night = step % 12 >= 6 ? 1 : 0;
            int full = Math.max(0, Math.min(law.value(wind, worn, turned, night), MOST_POWER));
            return turned == 0 ? full : full * (turned == 1 ? 9 : 6) / 10;
        }

        static int turnedBy(int angle) {
            return Math.abs(angle - STRAIGHT);
        }

        static int left(int blows, int taken) {
            return blows * (10 - taken) / 10;
        }

        private static int drift(int angle, int off) {
            int turned = turnedBy(angle);
            if (turned == 0 || turned == 1 && off == 1) {
                return 0;
            }
            return angle < STRAIGHT ? -1 : 1;
        }

        private static void only(Numbers list, int value) {
            list.size = 0;
            list.add(value);
        }
    }

    /** Reads the tape as a PARK or as a DAY, up to the first token that is wrong. */
    private static final class Reader {
        private static final int WRONG = 1;
        private static final int UNKNOWN = 2;
        private static final int AGAIN = 3;
        private static final int NOT_AS_TOLD = 4;
        private static final int TOO_MANY = 5;
        private static final int MOST_WITHIN = 5;

        private static final int TOLD_BLOWS = 1;
        private static final int TOLD_FROM = 2;
        private static final int TOLD_PRICE = 4;
        private static final int TOLD_WAKES = 8;
        private static final int TOLD_WEARS = 16;
        private static final int TOLD_SLACK = 32;
        private static final int TOLD_GIVES = 64;

        private final Tape tape;
        private final Numbers fresh = new Numbers(MOST_LINES);
        private Park park;
        private int wrong;
        private int number;
        private int named;
        private int told;

        Reader(Tape tape, Park park) {
            this.tape = tape;
            this.park = park;
        }

        int readPark(Park target) {
            target.clear();
            park = target;
            wrong = 0;
            told = 0;
            tape.start();
            for (int n = 0; n < TAPE_ROOM && wrong == 0 && tape.kind != Tape.END; n++) {
                readParkLine();
            }
            tape.clear();
            return wrong;
        }

        int readDay(Park ofPark, Numbers target) {
            park = ofPark;
            wrong = 0;
            fresh.size = 0;
            tape.start();
            for (int n = 0; n < TAPE_ROOM && wrong == 0 && tape.kind != Tape.END; n++) {
                readDayLine();
            }
            tape.clear();
            if (wrong == 0) {
                target.copy(fresh);
            }
            return wrong;
        }

        private boolean readParkLine() {
            Word word = tape.word;
            if (word == null) {
                return fail(WRONG);
            }
            switch (word) {
                case TURBINE: return readTurbine();
                case CABLE: return readCable();
                case BLOWS: return once(TOLD_BLOWS) && readList(park.blows, 30) && passSign(';');
                case FROM: return once(TOLD_FROM) && readList(park.from, 3) && passSign(';');
                case PRICE: return once(TOLD_PRICE) && readList(park.price, 20) && passSign(';');
                case WAKES: return once(TOLD_WAKES) && readWakes() && passSign(';');
                case WEARS: return once(TOLD_WEARS) && readWears() && passSign(';');
                case SLACK: return once(TOLD_SLACK) && readSlack() && passSign(';');
                case GIVES: return once(TOLD_GIVES) && readE(0) && passSign(';');
                default: return fail(WRONG);
            }
        }

        private boolean readTurbine() {
            if (park.count >= MOST_TURBINES) {
                return fail(TOO_MANY);
            }
            tape.pass();
            if (!isName()) {
                return fail(WRONG);
            }
            if (park.byName(tape.key) != NONE) {
                return fail(AGAIN);
            }
            long name = tape.key;
            tape.pass();
            int kind = kindOf(tape.word);
            if (kind == NONE) {
                return fail(WRONG);
            }
            tape.pass();
            if (!passWord(Word.OF) || !passNumber(1, 2)) {
                return false;
            }
            int owner = number;
            if (!passWord(Word.AT) || !isNumber(0, CELLS - 1)) {
                return false;
            }
            int cell = tape.value;
            if (park.isTaken(cell)) {
                return fail(AGAIN);
            }
            tape.pass();
            park.addTurbine(name, kind, owner, cell);
            return passSign(';');
        }

        private boolean readCable() {
            tape.pass();
            if (!isTurbine()) {
                return false;
            }
            int turbine = named;
            if (park.cableTo[turbine] != NONE) {
                return fail(AGAIN);
            }
            tape.pass();
            if (!readGoal() || !passWord(Word.HOLDS)) {
                return false;
            }
            int goal = named;
            if (!passNumber(1, 200)) {
                return false;
            }
            park.cableTo[turbine] = goal;
            park.holds[turbine] = number;
            park.cables.add(turbine);
            return passSign(';');
        }

        private boolean readGoal() {
            Word word = tape.word;
            if (word != Word.HOME && word != Word.TO) {
                return fail(WRONG);
            }
            tape.pass();
            if (word == Word.HOME) {
                named = HOMEWARD;
                return true;
            }
            if (!isTurbine()) {
                return false;
            }
            // One's own cable is not told yet, so this refuses a cable to oneself too.
            if (park.cableTo[named] == NONE) {
                return fail(UNKNOWN);
            }
            tape.pass();
            return true;
        }

        private boolean readList(Numbers list, int high) {
            list.size = 0;
            for (int n = 0; n < TAPE_ROOM && (n == 0 || tape.kind == Tape.NUMBER); n++) {
                if (!isNumber(0, high)) {
                    return false;
                }
                if (!list.add(tape.value)) {
                    return fail(TOO_MANY);
                }
                tape.pass();
            }
            return true;
        }

        private boolean readWakes() {
            park.wakes.size = 0;
            for (int i = 0; i < REACH; i++) {
                if (!passNumber(0, 9)) {
                    return false;
                }
                park.wakes.add(number);
            }
            return true;
        }

        private boolean readWears() {
            if (!passNumber(1, 99)) {
                return false;
            }
            park.wears = number;
            return true;
        }

        private boolean readSlack() {
            if (!passNumber(1, 12)) {
                return false;
            }
            park.slack = number;
            return true;
        }

        private boolean readE(int within) {
            if (!readTest(within)) {
                return false;
            }
            for (int n = 0; n < TAPE_ROOM; n++) {
                Word word = tape.word;
                if (word != Word.AND && word != Word.OR) {
                    return true;
                }
                tape.pass();
                if (!readTest(within)) {
                    return false;
                }
                park.law.code.add(word == Word.AND ? Law.AND : Law.OR);
            }
            return true;
        }

        private boolean readTest(int within) {
            if (!readSum(within)) {
                return false;
            }
            int sign = tape.kind;
            if (sign != '<' && sign != '=') {
                return true;
            }
            tape.pass();
            if (!readSum(within)) {
                return false;
            }
            park.law.code.add(sign == '<' ? Law.LESS : Law.SAME);
            return true;
        }

        private boolean readSum(int within) {
            if (!readProduct(within)) {
                return false;
            }
            for (int n = 0; n < TAPE_ROOM && (tape.kind == '+' || tape.kind == '-'); n++) {
                int sign = tape.kind;
                tape.pass();
                if (!readProduct(within)) {
                    return false;
                }
                park.law.code.add(sign == '+' ? Law.PLUS : Law.MINUS);
            }
            return true;
        }

        private boolean readProduct(int within) {
            if (!readPart(within)) {
                return false;
            }
            for (int n = 0; n < TAPE_ROOM && tape.kind == '*'; n++) {
                tape.pass();
                if (!readPart(within)) {
                    return false;
                }
                park.law.code.add(Law.TIMES);
            }
            return true;
        }

        private boolean readPart(int within) {
            int sign = tape.kind;
            Word word = tape.word;
            int fact = factOf(word);
            if (sign != Tape.NUMBER && sign != '(' && word != Word.NOT && fact == 0) {
                return fail(WRONG);
            }
            if (within >= MOST_WITHIN) {
                return fail(TOO_MANY);
            }
            int value = tape.value;
            tape.pass();
            if (sign == '(') {
                return readE(within + 1) && passSign(')');
            }
            if (word == Word.NOT) {
                return readPart(within + 1) && park.law.code.add(Law.NOT);
            }
            return park.law.code.add(sign == Tape.NUMBER ? value : fact);
        }

        private boolean readDayLine() {
            int deed = deedOf(tape.word);
            if (deed == NONE) {
                return fail(WRONG);
            }
            if (fresh.size >= MOST_LINES) {
                return fail(TOO_MANY);
            }
            tape.pass();
            named = 0;
            number = 0;
            if (deed != TO_STEP) {
                if (!isTurbine()) {
                    return false;
                }
                tape.pass();
            }
            if (deed == TO_TURN && !passNumber(0, ANGLES - 1)) {
                return false;
            }
            fresh.add(deed * 100 + named * 10 + number);
            return passSign(';');
        }

        private boolean fail(int kind) {
            wrong = kind + 16 * tape.at;
            return false;
        }

        private boolean once(int which) {
            if ((told & which) != 0) {
                return fail(AGAIN);
            }
            told |= which;
            if (which == TOLD_GIVES) {
                park.law.code.size = 0;
            }
            tape.pass();
            return true;
        }

        private boolean passSign(int sign) {
            if (tape.kind != sign) {
                return fail(WRONG);
            }
            tape.pass();
            return true;
        }

        private boolean passWord(Word word) {
            if (tape.word != word) {
                return fail(WRONG);
            }
            tape.pass();
            return true;
        }

        private boolean passNumber(int low, int high) {
            if (!isNumber(low, high)) {
                return false;
            }
            number = tape.value;
            tape.pass();
            return true;
        }

        private boolean isNumber(int low, int high) {
            if (tape.kind != Tape.NUMBER) {
                return fail(WRONG);
            }
            return tape.value >= low && tape.value <= high || fail(NOT_AS_TOLD);
        }

        private boolean isName() {
            Word word = tape.word;
            return tape.kind == Tape.WORD && (word == null || word.free);
        }

        private boolean isTurbine() {
            if (!isName()) {
                return fail(WRONG);
            }
            named = park.byName(tape.key);
            return named != NONE || fail(UNKNOWN);
        }

        private static int kindOf(Word word) {
            if (word == Word.PLAIN) {
                return 0;
            }
            if (word == Word.TALL) {
                return TALL;
            }
            if (word == Word.OLD) {
                return OLD;
            }
            return word == Word.SMALL ? SMALL : NONE;
        }

        private static int deedOf(Word word) {
            if (word == Word.TURN) {
                return TO_TURN;
            }
            if (word == Word.SHUT) {
                return TO_SHUT;
            }
            if (word == Word.OPEN) {
                return TO_OPEN;
            }
            if (word == Word.MEND) {
                return TO_MEND;
            }
            return word == Word.STEP ? TO_STEP : NONE;
        }

        /** The deed of the law that lays a fact; 0: it is none. */
        private static int factOf(Word word) {
            if (word == Word.WIND) {
                return Law.WIND;
            }
            if (word == Word.WORN) {
                return Law.WORN;
            }
            if (word == Word.ANGLE) {
                return Law.ANGLE;
            }
            return word == Word.NIGHT ? Law.NIGHT : 0;
        }
    }

    /** How a park is at one time. */
    private static final class State {
        final int[] angles = new int[MOST_TURBINES];
        final int[] worn = new int[MOST_TURBINES];
        int opened;
        int broken;
        int step;
        int sold;

        void begin(Park park) {
            Arrays.fill(angles, STRAIGHT);
            Arrays.fill(worn, 0);
            opened = everyone(park);
            broken = 0;
            step = 0;
            sold = 0;
        }

        void copy(State other) {
            System.arraycopy(other.angles, 0, angles, 0, MOST_TURBINES);
            System.arraycopy(other.worn, 0, worn, 0, MOST_TURBINES);
            opened = other.opened;
            broken = other.broken;
            step = other.step;
            sold = other.sold;
        }

        int everyone(Park park) {
            return (1 << park.count) - 1;
        }

        boolean isOpen(int turbine) {
            return (opened >> turbine & 1) != 0;
        }

        boolean isBroken(int turbine) {
            return (broken >> turbine & 1) != 0;
        }

        boolean runs(int turbine) {
            return isOpen(turbine) && !isBroken(turbine);
        }

        boolean can(Park park, int deed, int turbine) {
            if (turbine < 0 || turbine >= park.count) {
                return false;
            }
            switch (deed) {
                case TO_TURN: return true;
                case TO_SHUT: return isOpen(turbine);
                case TO_OPEN: return !isOpen(turbine);
                case TO_MEND: return isBroken(turbine) && park.isSlack(step);
                default: return false;
            }
        }

        boolean act(Park park, int deed, int turbine, int angle) {
            if (!can(park, deed, turbine)) {
                return false;
            }
            int bit = 1 << turbine;
            switch (deed) {
                case TO_TURN:
                    angles[turbine] = angle;
                    break;
                case TO_SHUT:
                    opened &= ~bit;
                    break;
                case TO_OPEN:
                    opened |= bit;
                    break;
                default:
                    broken &= ~bit;
                    worn[turbine] = 0;
                    break;
            }
            return true;
        }

        /** Wears one that runs, by what is TAKEN of it. */
        void wear(Park park, int turbine, int taken) {
            int more = Park.turnedBy(angles[turbine]) + (taken > 0 ? 1 : 0);
            worn[turbine] += park.kinds[turbine] == OLD ? 2 * more : more;
            if (worn[turbine] >= park.wears) {
                broken |= 1 << turbine;
            }
        }
    }

    /** What a MARK holds. */
    private static final class Mark {
        final State state = new State();
        final Numbers lines = new Numbers(MOST_LINES);
        final Numbers sights = new Numbers(MOST_SEEN);
        boolean laid;

        void lay(State now, Numbers nowLines, Numbers nowSights) {
            state.copy(now);
            lines.copy(nowLines);
            sights.copy(nowSights);
            laid = true;
        }
    }

    /** Where the wind goes and what of it comes home. */
    private static final class Flow {
        final int[] taken = new int[MOST_TURBINES];
        final int[] reach = new int[MOST_TURBINES];
        final int[] given = new int[MOST_TURBINES];
        final int[] loads = new int[MOST_TURBINES];
        private final int[] coming = new int[MOST_TURBINES];
        int sum;
        int brought;

        void measure(Park park, State state) {
            take(park, state, park.from.round(state.step));
            give(park, state, park.blows.round(state.step));
            bring(park, NOTHING_FAILS);
        }

        /** What is TAKEN of each by a wind from there. */
        void take(Park park, State state, int from) {
            for (int i = 0; i < park.count; i++) {
                int tenths = 0;
                for (int j = 0; j < park.count; j++) {
                    if (j != i && state.runs(j)) {
                        tenths += park.tenths(j, state.angles[j], i, from);
                    }
                }
                taken[i] = park.takenOf(i, tenths);
            }
        }

        /** What reaches each and what it gives, by what was TAKEN last. */
        void give(Park park, State state, int blows) {
            sum = 0;
            for (int i = 0; i < park.count; i++) {
                reach[i] = Park.left(blows, taken[i]);
                given[i] = state.runs(i) ? park.gives(reach[i], state.worn[i], state.angles[i], state.step) : 0;
                sum += given[i];
            }
        }

        /** Carries home what is given; the cable of one may fail. */
        void bring(Park park, int failing) {
            Arrays.fill(coming, 0);
            Arrays.fill(loads, 0);
            brought = 0;
            for (int n = park.cables.size - 1; n >= 0; n--) {
                int turbine = park.cables.get(n);
                int goal = park.cableTo[turbine];
                int load = turbine == failing ? 0 : Math.min(given[turbine] + coming[turbine], park.holds[turbine]);
                loads[turbine] = load;
                if (goal == HOMEWARD) {
                    brought += load;
                } else if (goal >= 0 && goal < MOST_TURBINES) {
                    coming[goal] += load;
                }
            }
        }

        int sold(Park park, State state) {
            measure(park, state);
            return brought * park.priceAt(state.step);
        }

        int runStep(Park park, State state) {
            measure(park, state);
            int sold = brought * park.priceAt(state.step);
            for (int i = 0; i < park.count; i++) {
                if (state.runs(i)) {
                    state.wear(park, i, taken[i]);
                }
            }
            state.sold += sold;
            state.step++;
            return sold;
        }
    }

    /** Seeks the row of ANGLES by which the most is sold, or by which one owner has the most. */
    private static final class Search {
        private static final int DEGREES = 10;

        final int[] row = new int[MOST_TURBINES];
        int most;
        boolean known;
        /** Of each turbine by each ANGLE: what it takes of each, what it gives by what is TAKEN of it. */
        private final int[] takes = new int[MOST_TURBINES * ANGLES * MOST_TURBINES];
        private final int[] gifts = new int[MOST_TURBINES * ANGLES * DEGREES];
        /** Of each turbine the ANGLES to try. */
        private final int[] tries = new int[MOST_TURBINES * ANGLES];
        private final int[] width = new int[MOST_TURBINES];
        private final int[] choice = new int[MOST_TURBINES];
        /** A row for each turbine: what it and those ahead of it take of each. */
        private final int[] tenths = new int[(MOST_TURBINES + 1) * MOST_TURBINES];

        void seek(Park park, State state, Flow flow, int owner) {
            for (int i = 0; i < park.count; i++) {
                foresee(park, state, i);
                boolean free = owner == 0 || park.owners[i] == owner;
                listTries(i, park.count, free ? NONE : state.angles[i]);
                choice[i] = 0;
            }
            addFrom(0, park.count);
            int factor = park.priceAt(state.step);
            for (int n = 0; n < ROWS_OF_ANGLES; n++) {
                int value = owner == 0 ? sale(park, flow, factor) : share(park, owner);
                if (n == 0 || value > most) {
                    most = value;
                    keepRow(park.count);
                }
                int moved = next(park.count);
                if (moved < 0) {
                    return;
                }
                addFrom(moved, park.count);
            }
        }

        private void foresee(Park park, State state, int turbine) {
            int blows = park.blows.round(state.step);
            int from = park.from.round(state.step);
            boolean runs = state.runs(turbine);
            for (int angle = 0; angle < ANGLES; angle++) {
                int place = turbine * ANGLES + angle;
                for (int j = 0; j < park.count; j++) {
                    boolean touched = runs && j != turbine;
                    takes[place * MOST_TURBINES + j] = touched ? park.tenths(turbine, angle, j, from) : 0;
                }
                for (int taken = 0; taken < DEGREES; taken++) {
                    int wind = Park.left(blows, taken);
                    gifts[place * DEGREES + taken] =
                        runs ? park.gives(wind, state.worn[turbine], angle, state.step) : 0;
                }
            }
        }

        /** An ANGLE that does just what an earlier one does can never be of the first best row. */
        private void listTries(int turbine, int count, int fixed) {
            int first = turbine * ANGLES;
            width[turbine] = 0;
            for (int angle = 0; angle < ANGLES; angle++) {
                if (fixed == NONE ? isNew(turbine, angle, count) : angle == fixed) {
                    tries[first + width[turbine]] = angle;
                    width[turbine]++;
                }
            }
        }

        private boolean isNew(int turbine, int angle, int count) {
            for (int earlier = 0; earlier < angle; earlier++) {
                if (isAlike(turbine * ANGLES + earlier, turbine * ANGLES + angle, count)) {
                    return false;
                }
            }
            return true;
        }

        private boolean isAlike(int one, int other, int count) {
            for (int j = 0; j < count; j++) {
                if (takes[one * MOST_TURBINES + j] != takes[other * MOST_TURBINES + j]) {
                    return false;
                }
            }
            for (int taken = 0; taken < DEGREES; taken++) {
                if (gifts[one * DEGREES + taken] != gifts[other * DEGREES + taken]) {
                    return false;
                }
            }
            return true;
        }

        private int angleOf(int turbine) {
            return tries[turbine * ANGLES + choice[turbine]];
        }

        private void keepRow(int count) {
            for (int i = 0; i < count; i++) {
                row[i] = angleOf(i);
            }
        }

        /** Goes to the next row by numbers: the first turbine that is turned otherwise, or NONE. */
        private int next(int count) {
            for (int i = count - 1; i >= 0; i--) {
                if (choice[i] + 1 < width[i]) {
                    choice[i]++;
                    return i;
                }
                choice[i] = 0;
            }
            return NONE;
        }

        private void addFrom(int first, int count) {
            for (int i = first; i < count; i++) {
                int place = (i * ANGLES + angleOf(i)) * MOST_TURBINES;
                for (int j = 0; j < count; j++) {
                    tenths[(i + 1) * MOST_TURBINES + j] = tenths[i * MOST_TURBINES + j] + takes[place + j];
                }
            }
        }

        private int giftOf(Park park, int turbine) {
            int taken = park.takenOf(turbine, tenths[park.count * MOST_TURBINES + turbine]);
            return gifts[(turbine * ANGLES + angleOf(turbine)) * DEGREES + taken];
        }

        private int sale(Park park, Flow flow, int factor) {
            for (int i = 0; i < park.count; i++) {
                flow.given[i] = giftOf(park, i);
            }
            flow.bring(park, NOTHING_FAILS);
            return flow.brought * factor;
        }

        private int share(Park park, int owner) {
            int together = 0;
            for (int i = 0; i < park.count; i++) {
                if (park.owners[i] == owner) {
                    together += giftOf(park, i);
                }
            }
            return together;
        }
    }

    /** Which winds it could be, by what was SEEN. */
    private static final class Winds {
        int fitting;
        int least;
        int greatest;
        int sides;
        private final boolean[] fits = new boolean[ALL_WINDS];
        private final int[] gifts = new int[ALL_WINDS * MOST_TURBINES];
        private final int[] tally = new int[MOST_POWER + 1];

        void guess(Park park, State state, Flow flow, Numbers sights) {
            fitting = 0;
            least = NONE;
            greatest = NONE;
            sides = 0;
            for (int from = 0; from < SIDES; from++) {
                flow.take(park, state, from);
                for (int blows = 0; blows < STRENGTHS; blows++) {
                    int wind = from * STRENGTHS + blows;
                    flow.give(park, state, blows);
                    System.arraycopy(flow.given, 0, gifts, wind * MOST_TURBINES, MOST_TURBINES);
                    fits[wind] = isAsSeen(flow, sights);
                    if (fits[wind]) {
                        note(blows, from);
                    }
                }
            }
        }

        /** Of the winds that fit: by how many, at the most, one gives the same. */
        int mostAlike(int turbine) {
            Arrays.fill(tally, 0);
            int most = 0;
            for (int wind = 0; wind < ALL_WINDS; wind++) {
                if (fits[wind]) {
                    int gift = gifts[wind * MOST_TURBINES + turbine];
                    tally[gift]++;
                    most = Math.max(most, tally[gift]);
                }
            }
            return most;
        }

        private void note(int blows, int from) {
            fitting++;
            least = least == NONE || blows < least ? blows : least;
            greatest = Math.max(greatest, blows);
            sides |= 1 << from;
        }

        private static boolean isAsSeen(Flow flow, Numbers sights) {
            for (int i = 0; i < sights.size; i++) {
                int sight = sights.get(i);
                if (flow.given[sight / (MOST_POWER + 1)] != sight % (MOST_POWER + 1)) {
                    return false;
                }
            }
            return true;
        }
    }
}
