/** Promise 20: call. */
final class RulesTest {
    private static final int NEAREST = 0, FULLEST = 1, TURNS = 2;

    public static void main(String[] args) {
        nearest();
        fullest();
        turns();
        asManyAsCanTheLeastNumbers();
        none();
        unknown();
        full();
        Check.end();
    }

    private static void dueCall(LiftExchange lift, int rule, int floor, int out, int in) {
        int before = lift.about(6);
        Check.due("call(" + rule + ")", lift.call(rule), floor);
        Check.due("about(6) behind it", lift.about(6), before + 1);
        Check.due("made(.., 0)", lift.made(before, 0), floor);
        Check.due("made(.., 1)", lift.made(before, 1), out);
        Check.due("made(.., 2)", lift.made(before, 2), in);
        Check.due("about(5)", lift.about(5), floor);
    }

    /** THE HOIST at 1, where nobody stands; the STRANGER 4 is INSIDE, at 0 stands 2, at 2 stands 3. */
    private static LiftExchange between() {
        LiftExchange lift = Check.lift("N3I1A12TA01A20");
        Check.due("halt(1, 1, 2)", lift.halt(1, 1, 2), 1);
        return lift;
    }

    private static void nearest() {
        dueCall(between(), NEAREST, 0, 16, 4);
        dueCall(Check.lift("N4TTA31A32A20"), NEAREST, 2, 16, 4);
        LiftExchange own = Check.lift("N3TS1A01");
        own.halt(1, 16, 32);
        dueCall(own, NEAREST, 1, 32, 16);
        // above and nearer than the one below
        LiftExchange above = Check.lift("N5I3A34TA01A42");
        above.halt(3, 1, 2);
        dueCall(above, NEAREST, 4, 2, 8);
        Check.due("about(7)", above.about(7), 4);
    }

    private static void fullest() {
        dueCall(Check.lift("N3TTA01A20A21"), FULLEST, 2, 48, 6);
        dueCall(between(), FULLEST, 0, 16, 4);
        // more that may get OUT do not make it fuller: as many get IN as OUT
        dueCall(Check.lift("N4TTI3A10A31"), FULLEST, 1, 16, 2);
        dueCall(Check.lift("N4TTI3A10A31A30"), FULLEST, 3, 17, 12);
    }

    private static void turns() {
        dueCall(between(), TURNS, 2, 2, 8);
        LiftExchange own = Check.lift("N3TS1A01");
        own.halt(1, 16, 32);
        dueCall(own, TURNS, 1, 32, 16);
        // its own FLOOR comes ahead of the one above and of the one below
        LiftExchange between = Check.lift("N4TS2A30A10A10");
        between.halt(2, 16, 32);
        dueCall(between, TURNS, 2, 32, 16);
        // behind the last FLOOR it turns: 1 comes ahead of 0
        LiftExchange down = Check.lift("N4I2A23TA01A10");
        down.halt(2, 1, 2);
        dueCall(down, TURNS, 1, 16, 8);
        // up comes ahead of down, though it is farther
        LiftExchange up = Check.lift("N5I2A21TA10A43");
        up.halt(2, 1, 2);
        dueCall(up, TURNS, 4, 16, 8);
    }

    private static void asManyAsCanTheLeastNumbers() {
        dueCall(Check.lift("N2TTI0A01A01"), NEAREST, 0, 17, 6);
        dueCall(Check.lift("N2TTI0A01A01"), FULLEST, 0, 17, 6);
        dueCall(Check.lift("N2TTI0A01A01"), TURNS, 0, 17, 6);
        dueCall(Check.lift("N2I0A01A01A01S0S0"), NEAREST, 0, 1, 2);
        dueCall(Check.lift("N2TA01A01A01A01S0"), NEAREST, 0, 16, 1);
        dueCall(Check.lift("N2TI0I0I0A01S0"), TURNS, 0, 3, 40);
    }

    private static void none() {
        String[] houses = {"N2", "N3A01A12", "N3I1I2TT", "N3I2A01"};
        for (String house : houses) {
            for (int rule = NEAREST; rule <= TURNS; rule++) {
                int called = rule;
                Check.refused(Check.lift(house), "call(" + rule + ") of " + house, x -> x.call(called), LiftExchange.NONE);
            }
        }
    }

    private static void unknown() {
        int[] unknown = {-1, 3, Integer.MIN_VALUE, Integer.MAX_VALUE};
        for (int rule : unknown) {
            Check.refused(between(), "call(" + rule + ")", x -> x.call(rule), LiftExchange.UNKNOWN);
        }
    }

    private static void full() {
        LiftExchange lift = Check.lift("N3TS1I1");
        for (int i = 0; i < 23; i++) {
            lift.halt(1, i % 2 == 0 ? 16 : 32, i % 2 == 0 ? 32 : 16);
        }
        LiftExchange other = Check.lift("N3TS1");
        for (int i = 0; i < 24; i++) {
            Check.due("call(0), " + i, other.call(NEAREST), 1);
        }
        Check.refused(other, "call(0), 25th", x -> x.call(NEAREST), LiftExchange.FULL);
        Check.due("call(3): UNKNOWN first", other.call(3), LiftExchange.UNKNOWN);
        // RIDER 0 gets OUT last, nobody stands any more: FULL is told ahead of NONE
        Check.due("halt(1, 1, 16)", lift.halt(1, 1, 16), 1);
        Check.due("choices(1)", lift.choices(1), 0);
        for (int rule = NEAREST; rule <= TURNS; rule++) {
            int called = rule;
            Check.refused(lift, "call(" + rule + ") at 24", x -> x.call(called), LiftExchange.FULL);
        }
    }
}
