/** Promise 1: two FLOORS, nobody; and the constants of the face. */
final class NewObjectTest {
    public static void main(String[] args) {
        constants();
        twoFloorsAndNobody();
        eachObjectIsItsOwn();
        Check.end();
    }

    private static void constants() {
        Check.due("UNKNOWN", LiftExchange.UNKNOWN, -1);
        Check.due("BAD", LiftExchange.BAD, -2);
        Check.due("LATE", LiftExchange.LATE, -3);
        Check.due("FULL", LiftExchange.FULL, -4);
        Check.due("NONE", LiftExchange.NONE, -9);
    }

    private static void twoFloorsAndNobody() {
        LiftExchange lift = new LiftExchange();
        int[] about = {2, 0, 0, 0, 0, 0, 0, 0, 0, 0};
        for (int what = 0; what < about.length; what++) {
            Check.due("about(" + what + ")", lift.about(what), about[what]);
        }
        for (int who = 0; who < 6; who++) {
            Check.due("where(" + who + ")", lift.where(who), LiftExchange.UNKNOWN);
        }
        for (int floor = 0; floor < 2; floor++) {
            Check.due("may(" + floor + ", true)", lift.may(floor, true), 0);
            Check.due("may(" + floor + ", false)", lift.may(floor, false), 0);
            Check.due("choices(" + floor + ")", lift.choices(floor), 0);
            Check.due("even(" + floor + ", true)", lift.even(floor, true), 0);
            Check.due("even(" + floor + ", false)", lift.even(floor, false), 1);
        }
        Check.due("may(2, true)", lift.may(2, true), LiftExchange.UNKNOWN);
        Check.due("fault()", lift.fault(), 0);
        Check.due("back()", lift.back(), LiftExchange.LATE);
        Check.due("made(0, 0)", lift.made(0, 0), LiftExchange.NONE);
        Check.due("reached()", lift.reached(), 1);
        Check.due("fewest(0)", lift.fewest(0), 0);
        Check.due("fewest(1)", lift.fewest(1), LiftExchange.BAD);
        Check.due("plan(0, 0, 0)", lift.plan(0, 0, 0), LiftExchange.NONE);
        Check.due("never()", lift.never(), 0);
        Check.due("hire()", lift.hire(), 0);
        Check.due("walks()", lift.walks(), LiftExchange.NONE);
        Check.due("call(0)", lift.call(0), LiftExchange.NONE);
        Check.due("ways()", lift.ways(), 1);
        Check.due("again(0)", lift.again(0), LiftExchange.LATE);
        Check.due("again(1)", lift.again(1), LiftExchange.LATE);
    }

    private static void eachObjectIsItsOwn() {
        LiftExchange one = Check.lift("N3I1A12T");
        one.keep(0);
        one.see(1, 1);
        LiftExchange other = new LiftExchange();
        Check.due("about(0) of another", other.about(0), 2);
        Check.due("about(8) of another", other.about(8), 0);
        Check.due("about(9) of another", other.about(9), 0);
        Check.due("again(0) of another", other.again(0), LiftExchange.LATE);
    }
}
