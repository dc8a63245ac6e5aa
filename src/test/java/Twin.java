/** Two objects with the same run of calls behind them: one is asked something, then both must answer alike. */
final class Twin {
    static final String SEA = "turbine a plain of 1 at 8;turbine b old of 2 at 14;turbine c small of 1 at 20;"
        + "turbine d tall of 2 at 9;cable a home holds 12;cable b to a holds 4;cable c home holds 50;price 13 8 17;"
        + "blows 12 20 7;from 0 3 2;wears 5;slack 2;gives wind + worn - night;";
    static final int TURBINES = 4;

    /** A call, a boolean's true counted 1. */
    interface Call {
        long on(WakePark park);
    }

    private Twin() {
    }

    /**
     * An object of which everything is something: a is turned by one, c by two, both are worn by 4, b is broken, d is
     * shut; two MARKS are laid. It is step 4: 20 blows from the west, the price less 10 is -2. a gives 21, of which
     * its cable carries 12, c gives 14.
     */
    static WakePark lived(String tape) {
        WakePark x = Check.told(SEA);
        Check.same("day", Check.readDay(x, "turn a 1;step;shut b;shut b;step;"), 0);
        x.see(0, 12);
        x.mark(0, false);
        x.step();
        x.turn(0, 1);
        x.step();
        x.shut(3);
        x.see(1, 3);
        x.mark(2, false);
        x.step();
        x.turn(2, 0);
        x.step();
        Check.same("b is broken", x.count(8), 2);
        Check.same("d is shut", x.count(7), 7);
        Check.feed(x, tape);
        return x;
    }

    /** The call answers so and leaves all as it was. */
    static void leaves(String what, Call call, long due) {
        WakePark asked = lived("oh");
        WakePark other = lived("oh");
        Check.same(what, call.on(asked), due);
        alike(what + " leaves all", asked, other);
    }

    /** As above, of a call that takes the TAPE. */
    static void leavesBut(String what, Call call, long due) {
        WakePark asked = lived("");
        WakePark other = lived("");
        Check.same(what, call.on(asked), due);
        alike(what + " leaves all", asked, other);
    }

    /** Asks both everything, then undoes all in both, then goes back to all MARKS. */
    static void alike(String what, WakePark one, WakePark other) {
        lookAlike(what, one, other);
        foreseeAlike(what, one, other);
        for (int i = 0; i < 20; i++) {
            Check.is(what + ", undo " + i, one.undo() == other.undo());
            beAlike(what + ", undone " + i, one, other);
        }
        for (int mark = 0; mark < 4; mark++) {
            Check.is(what + ", mark " + mark, one.mark(mark, true) == other.mark(mark, true));
            beAlike(what + ", back to " + mark, one, other);
        }
    }

    private static void beAlike(String what, WakePark one, WakePark other) {
        for (int fact = 1; fact <= 11; fact++) {
            Check.same(what + ", count " + fact, one.count(fact), other.count(fact));
        }
        for (int i = 0; i < TURBINES; i++) {
            Check.same(what + ", angle", one.turbine(i, 3), other.turbine(i, 3));
            Check.same(what + ", worn", one.turbine(i, 6), other.turbine(i, 6));
        }
    }

    private static void lookAlike(String what, WakePark one, WakePark other) {
        for (int fact = 0; fact <= 12; fact++) {
            Check.same(what + ", count " + fact, one.count(fact), other.count(fact));
        }
        for (int i = 0; i < TURBINES; i++) {
            for (int fact = 0; fact <= 8; fact++) {
                Check.same(what + ", turbine " + i + " " + fact, one.turbine(i, fact), other.turbine(i, fact));
            }
            Check.same(what + ", wind", one.wind(i), other.wind(i));
            Check.same(what + ", carried", one.carried(i), other.carried(i));
        }
        for (int fact = 0; fact < 3; fact++) {
            Check.same(what + ", judged", one.judged(fact), other.judged(fact));
        }
        for (int fact = 0; fact < 4; fact++) {
            Check.same(what + ", winds", one.winds(fact), other.winds(fact));
        }
    }

    private static void foreseeAlike(String what, WakePark one, WakePark other) {
        for (int i = -1; i < TURBINES; i++) {
            Check.same(what + ", best", one.best(i), other.best(i));
            Check.same(what + ", alone", one.alone(2, i), other.alone(2, i));
        }
        Check.same(what + ", idle", one.idle(), other.idle());
        Check.same(what + ", ask", one.ask(), other.ask());
        Check.same(what + ", later", one.later(9), other.later(9));
        Check.same(what + ", total", one.total(30), other.total(30));
        Check.same(what + ", days", one.days(5, 40, 0), other.days(5, 40, 0));
        Check.same(what + ", next", one.count(1), other.count(1));
    }
}
