/** Promises 9 to 13: may, choices, halt, back, made. */
final class HaltsTest {
    public static void main(String[] args) {
        may();
        choices();
        haltsOfRiders();
        haltsOfStrangers();
        haltsThatAreBad();
        haltsThatAreUnknown();
        haltsThatAreFull();
        back();
        made();
        Check.end();
    }

    private static void may() {
        LiftExchange lift = Check.lift("N4I2A23A20S2T");
        Check.due("may(2, true)", lift.may(2, true), 33);
        Check.due("may(2, false)", lift.may(2, false), 2 + 4 + 16);
        Check.due("may(1, true)", lift.may(1, true), 32);
        Check.due("may(1, false)", lift.may(1, false), 0);
        lift.halt(2, 33, 2 + 16);
        Check.due("may(2, true) then", lift.may(2, true), 16);
        Check.due("may(2, false) then", lift.may(2, false), 4 + 32);
        Check.due("may(3, true) then", lift.may(3, true), 2 + 16);
        int[] unknown = {-1, 4, 5, 6, Integer.MIN_VALUE, Integer.MAX_VALUE};
        for (int floor : unknown) {
            Check.due("may(" + floor + ", true)", lift.may(floor, true), LiftExchange.UNKNOWN);
            Check.due("may(" + floor + ", false)", lift.may(floor, false), LiftExchange.UNKNOWN);
        }
    }

    private static void choices() {
        Check.due("1 OUT, 1 IN", Check.lift("N2I0A01").choices(0), 1);
        Check.due("none OUT", Check.lift("N2I1A01").choices(0), 0);
        Check.due("none IN", Check.lift("N2I0A10").choices(0), 0);
        Check.due("1 OUT, 2 IN", Check.lift("N2I0A01A01").choices(0), 2);
        Check.due("2 OUT, 2 IN", Check.lift("N2I0I0A01A01").choices(0), 5);
        Check.due("3 OUT, 3 IN", Check.lift("N2TI0I0A01A01S0").choices(0), 19);
        Check.due("2 OUT, 4 IN", Check.lift("N2TTA01A01A01A01").choices(0), 14);
        Check.due("5 OUT, 1 IN", Check.lift("N2TTI0I0I0A01").choices(0), 5);
        LiftExchange lift = Check.lift("N3TS1");
        Check.due("choices(0)", lift.choices(0), 0);
        Check.due("choices(1)", lift.choices(1), 1);
        int[] unknown = {-1, 3, 5, Integer.MIN_VALUE, Integer.MAX_VALUE};
        for (int floor : unknown) {
            Check.due("choices(" + floor + ")", lift.choices(floor), LiftExchange.UNKNOWN);
        }
    }

    private static void haltsOfRiders() {
        LiftExchange lift = Check.lift("N5I4I4A41A40");
        Check.due("halt(4, 3, 12)", lift.halt(4, 3, 12), 2);
        Check.due("about(3)", lift.about(3), 2);
        Check.due("about(4)", lift.about(4), 2);
        Check.due("about(5)", lift.about(5), 4);
        Check.due("about(7)", lift.about(7), 4);
        Check.due("where(0)", lift.where(0), 200);
        Check.due("where(2)", lift.where(2), 100);
        // who is DONE gets IN no more, and nobody stands at 1
        Check.due("may(4, false)", lift.may(4, false), 0);
        Check.due("halt(1, 4, 1)", lift.halt(1, 4, 1), LiftExchange.BAD);
    }

    private static void haltsOfStrangers() {
        LiftExchange lift = Check.lift("N4TS2A31");
        Check.due("halt(2, 16, 32)", lift.halt(2, 16, 32), 1);
        Check.due("where(4)", lift.where(4), 2);
        Check.due("where(5)", lift.where(5), 100);
        // who got OUT stands there and may get IN again
        Check.due("halt(2, 32, 16)", lift.halt(2, 32, 16), 1);
        Check.due("about(7): no flight between", lift.about(7), 2);
        Check.due("halt(3, 16, 1)", lift.halt(3, 16, 1), 1);
        Check.due("where(4)", lift.where(4), 3);
        Check.due("where(0)", lift.where(0), 100);
        Check.due("about(7)", lift.about(7), 3);
        Check.due("choices(1): nobody stands there", lift.choices(1), 0);
    }

    private static void bad(LiftExchange lift, int floor, int out, int in) {
        String call = "halt(" + floor + ", " + out + ", " + in + ")";
        Check.refused(lift, call, x -> x.halt(floor, out, in), LiftExchange.BAD);
    }

    private static void haltsThatAreBad() {
        String house = "N3I1A12A12T";
        bad(Check.lift(house), 1, 0, 0);
        bad(Check.lift(house), 1, 1, 0);
        bad(Check.lift(house), 1, 0, 2);
        bad(Check.lift(house), 1, 1, 6);
        bad(Check.lift(house), 1, 17, 2);
        bad(Check.lift(house), 1, 2, 4);
        bad(Check.lift(house), 1, 1, 1);
        bad(Check.lift(house), 1, 1, 8);
        bad(Check.lift(house), 1, 32, 2);
        bad(Check.lift(house), 1, 64, 2);
        bad(Check.lift(house), 1, 1, 64);
        bad(Check.lift(house), 1, 1 << 31, 2);
        bad(Check.lift(house), 1, -1, -1);
        bad(Check.lift(house), 2, 1, 2);
        bad(Check.lift(house), 0, 16, 2);
        LiftExchange lift = Check.lift(house);
        Check.due("halt(1, 17, 6)", lift.halt(1, 17, 6), 2);
    }

    private static void haltsThatAreUnknown() {
        int[] unknown = {-1, 3, 6, Integer.MIN_VALUE, Integer.MAX_VALUE};
        for (int floor : unknown) {
            LiftExchange lift = Check.lift("N3I1A12A12T");
            Check.refused(lift, "halt(" + floor + ", 1, 2)", x -> x.halt(floor, 1, 2), LiftExchange.UNKNOWN);
            Check.due("halt(" + floor + ", 0, 0): UNKNOWN first", lift.halt(floor, 0, 0), LiftExchange.UNKNOWN);
        }
    }

    private static void haltsThatAreFull() {
        LiftExchange lift = Check.changed(24);
        Check.due("about(6)", lift.about(6), 24);
        Check.refused(lift, "halt(1, 16, 32), 25th", x -> x.halt(1, 16, 32), LiftExchange.FULL);
        Check.due("halt(1, 32, 16): BAD first", lift.halt(1, 32, 16), LiftExchange.BAD);
        Check.due("halt(3, 16, 32): UNKNOWN first", lift.halt(3, 16, 32), LiftExchange.UNKNOWN);
        Check.due("choices(1) all the same", lift.choices(1), 1);
        Check.due("reached() as if any number could be made", lift.reached(), 2);
        Check.due("back()", lift.back(), 23);
        Check.due("halt(1, 32, 16)", lift.halt(1, 32, 16), 1);
        Check.due("about(6)", lift.about(6), 24);
    }

    private static void back() {
        LiftExchange lift = Check.lift("N6I5A52S3T");
        String start = Check.look(lift);
        Check.due("halt(5, 1, 2)", lift.halt(5, 1, 2), 1);
        String one = Check.look(lift);
        Check.due("halt(3, 32, 16)", lift.halt(3, 32, 16), 1);
        Check.due("about(7)", lift.about(7), 7);
        Check.due("back()", lift.back(), 1);
        Check.same("behind back()", Check.look(lift), one);
        Check.due("about(5)", lift.about(5), 5);
        Check.due("about(7)", lift.about(7), 5);
        Check.due("back()", lift.back(), 0);
        Check.same("behind two back()", Check.look(lift), start);
        Check.due("about(5)", lift.about(5), 0);
        Check.refused(lift, "back()", LiftExchange::back, LiftExchange.LATE);
        LiftExchange both = Check.lift("N3TI2A20S2");
        String before = Check.look(both);
        both.halt(2, 17, 34);
        Check.due("back()", both.back(), 0);
        Check.same("behind back() of two", Check.look(both), before);
    }

    private static void made() {
        LiftExchange lift = Check.lift("N6I5A52S3T");
        lift.halt(5, 1, 2);
        lift.halt(3, 32, 16);
        int[][] want = {{5, 1, 2}, {3, 32, 16}};
        for (int i = 0; i < want.length; i++) {
            for (int what = 0; what < 3; what++) {
                Check.due("made(" + i + ", " + what + ")", lift.made(i, what), want[i][what]);
            }
        }
        int[] none = {-1, 2, 23, 24, Integer.MIN_VALUE, Integer.MAX_VALUE};
        for (int i : none) {
            Check.due("made(" + i + ", 0)", lift.made(i, 0), LiftExchange.NONE);
            Check.due("made(" + i + ", 3): BAD first", lift.made(i, 3), LiftExchange.BAD);
        }
        int[] bad = {-1, 3, Integer.MIN_VALUE, Integer.MAX_VALUE};
        for (int what : bad) {
            Check.due("made(0, " + what + ")", lift.made(0, what), LiftExchange.BAD);
        }
        lift.back();
        Check.due("made(1, 0) behind back()", lift.made(1, 0), LiftExchange.NONE);
    }
}
