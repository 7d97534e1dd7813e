/** Promises 25 and 26: likely, even. */
final class ChancesTest {
    public static void main(String[] args) {
        likely();
        likelyThatIsRefused();
        evenOfOneAndOne();
        evenOfThreeAndThree();
        evenOfThoseWhoMay();
        evenThatIsUnknown();
        Check.end();
    }

    private static void likely() {
        LiftExchange lift = Check.lift("N3I0A12A12I1TS0");
        for (int who = 0; who < 6; who++) {
            Check.due("likely(" + who + ", " + who + ")", lift.likely(who, who), 10);
        }
        for (int who = 0; who < 6; who++) {
            Check.due("likely(" + who + ", 10)", lift.likely(who, 10), who);
        }
        Check.due("likely(0, 0)", lift.likely(0, 0), 10);
        Check.due("likely(0, 0)", lift.likely(0, 0), 0);
        // HALTS leave it as it is
        lift.halt(0, 1, 32);
        lift.back();
        Check.due("likely(0, 1)", lift.likely(0, 1), 0);
    }

    private static void likelyThatIsRefused() {
        int[] unknown = {-1, 2, 3, 5, 6, Integer.MIN_VALUE, Integer.MAX_VALUE};
        for (int who : unknown) {
            LiftExchange lift = Check.lift("N2I0A01T");
            Check.refused(lift, "likely(" + who + ", 5)", x -> x.likely(who, 5), LiftExchange.UNKNOWN);
            Check.due("likely(" + who + ", 11): UNKNOWN first", lift.likely(who, 11), LiftExchange.UNKNOWN);
        }
        int[] bad = {-1, 11, 100, Integer.MIN_VALUE, Integer.MAX_VALUE};
        for (int tenths : bad) {
            LiftExchange lift = Check.lift("N2I0A01T");
            Check.refused(lift, "likely(1, " + tenths + ")", x -> x.likely(1, tenths), LiftExchange.BAD);
            Check.due("likely(1, 10)", lift.likely(1, 10), 10);
        }
    }

    private static void dueEven(LiftExchange lift, int floor, long above, long below) {
        Check.due("even(" + floor + ", true)", lift.even(floor, true), above);
        Check.due("even(" + floor + ", false)", lift.even(floor, false), below);
    }

    private static void evenOfOneAndOne() {
        LiftExchange lift = Check.lift("N2I0A01");
        dueEven(lift, 0, 1, 1);
        dueEven(lift, 1, 0, 1);
        lift.likely(0, 5);
        dueEven(lift, 0, 1, 2);
        lift.likely(1, 5);
        dueEven(lift, 0, 1, 4);
        lift.likely(1, 3);
        dueEven(lift, 0, 3, 20);
        lift.likely(1, 0);
        dueEven(lift, 0, 0, 1);
        Check.due("choices(0): likely is no matter of HALTS", lift.choices(0), 1);
    }

    private static void evenOfThreeAndThree() {
        LiftExchange lift = Check.lift("N2TI0I0A01A01S0");
        dueEven(lift, 0, 1, 1);
        lift.likely(0, 0);
        dueEven(lift, 0, 0, 1);
        allAre(lift, 5);
        dueEven(lift, 0, 19, 64);
        allAre(lift, 3);
        dueEven(lift, 0, 230931, 1000000);
        allAre(lift, 9);
        // 0.027, 0.243, 0.729, each of them twice over
        dueEven(lift, 0, 591219, 1000000);
    }

    private static void allAre(LiftExchange lift, int tenths) {
        for (int who = 0; who < 6; who++) {
            lift.likely(who, tenths);
        }
    }

    private static void evenOfThoseWhoMay() {
        LiftExchange lift = Check.lift("N3I0A01A12T");
        // 2 OUT, 1 IN, all of them there: never even
        dueEven(lift, 0, 0, 1);
        lift.likely(0, 5);
        dueEven(lift, 0, 1, 2);
        // who stands at another FLOOR is no matter
        lift.likely(2, 1);
        dueEven(lift, 0, 1, 2);
        dueEven(lift, 1, 1, 10);
        dueEven(lift, 2, 0, 1);
        lift.halt(0, 1, 2);
        dueEven(lift, 0, 0, 1);
        dueEven(lift, 1, 0, 1);
        lift.likely(1, 0);
        dueEven(lift, 1, 1, 10);
    }

    private static void evenThatIsUnknown() {
        LiftExchange lift = Check.lift("N3I0A01");
        int[] unknown = {-1, 3, 6, Integer.MIN_VALUE, Integer.MAX_VALUE};
        for (int floor : unknown) {
            dueEven(lift, floor, LiftExchange.UNKNOWN, LiftExchange.UNKNOWN);
        }
    }
}
