/** Promises 21 to 24: see, unsee, ways, byThen. */
final class SeenTest {
    /** At FLOOR 0 may get OUT 0, 1 and 4, IN 2, 3 and 5. */
    private static final String THREE_AND_THREE = "N2TI0I0A01A01S0";

    public static void main(String[] args) {
        see();
        seeThatIsRefused();
        unsee();
        waysOfOne();
        waysOfMany();
        askedLater();
        Check.end();
    }

    private static void see() {
        LiftExchange lift = Check.lift("N3TS1");
        String halts = lift.about(6) + " " + lift.where(4) + " " + lift.about(5);
        for (int i = 1; i <= 8; i++) {
            Check.due("see(" + i % 3 + ", " + (i % 6 + 1) + ")", lift.see(i % 3, i % 6 + 1), i);
            Check.due("about(9)", lift.about(9), i);
        }
        Check.same("no HALT is made by it", lift.about(6) + " " + lift.where(4) + " " + lift.about(5), halts);
    }

    private static LiftExchange seen(int times) {
        LiftExchange lift = Check.lift("N3TS1");
        for (int i = 0; i < times; i++) {
            lift.see(1, 1);
        }
        return lift;
    }

    private static void seeThatIsRefused() {
        int[] unknown = {-1, 3, 6, Integer.MIN_VALUE, Integer.MAX_VALUE};
        for (int floor : unknown) {
            Check.refused(seen(2), "see(" + floor + ", 1)", x -> x.see(floor, 1), LiftExchange.UNKNOWN);
            Check.due("see(" + floor + ", 0): UNKNOWN first", seen(8).see(floor, 0), LiftExchange.UNKNOWN);
        }
        int[] bad = {-1, 0, 7, 8, Integer.MIN_VALUE, Integer.MAX_VALUE};
        for (int k : bad) {
            Check.refused(seen(2), "see(1, " + k + ")", x -> x.see(1, k), LiftExchange.BAD);
            Check.due("see(1, " + k + ") of eight: BAD first", seen(8).see(1, k), LiftExchange.BAD);
        }
        Check.refused(seen(8), "see(1, 1), 9th", x -> x.see(1, 1), LiftExchange.FULL);
        Check.due("see(1, 6), 8th", seen(7).see(1, 6), 8);
    }

    private static void unsee() {
        LiftExchange lift = seen(8);
        Check.due("unsee()", lift.unsee(), 8);
        Check.due("about(9)", lift.about(9), 0);
        Check.due("ways()", lift.ways(), 1);
        Check.due("unsee()", lift.unsee(), 0);
        Check.due("see(1, 1)", lift.see(1, 1), 1);
    }

    private static void dueWays(String house, int floor, int k, long ways, long... byThen) {
        LiftExchange lift = Check.lift(house);
        lift.see(floor, k);
        String of = " of " + house + " behind see(" + floor + ", " + k + ")";
        Check.due("ways()" + of, lift.ways(), ways);
        for (int who = 0; who < byThen.length; who++) {
            Check.due("byThen(" + who + ")" + of, lift.byThen(who), byThen[who]);
        }
        Check.due("byThen(-1)", lift.byThen(-1), LiftExchange.UNKNOWN);
        Check.due("byThen(6)", lift.byThen(6), LiftExchange.UNKNOWN);
        Check.due("byThen(MIN)", lift.byThen(Integer.MIN_VALUE), LiftExchange.UNKNOWN);
        Check.due("byThen(MAX)", lift.byThen(Integer.MAX_VALUE), LiftExchange.UNKNOWN);
    }

    private static void waysOfOne() {
        dueWays(THREE_AND_THREE, 0, 1, 9, 3, 3, 0, 0, 6, 3);
        dueWays(THREE_AND_THREE, 0, 2, 9, 6, 6, 0, 0, 3, 6);
        dueWays(THREE_AND_THREE, 0, 3, 1, 1, 1, 0, 0, 0, 1);
        dueWays(THREE_AND_THREE, 0, 4, 0, 0, 0, 0, 0, 0, 0);
        dueWays(THREE_AND_THREE, 1, 1, 0, 0, 0, 0, 0, 0, 0);
        dueWays("N2I0A01A01", 0, 1, 2, 2, 0, 0, -1, -1, -1);
        dueWays("N3TS1", 1, 1, 1, -1, -1, -1, -1, 0, 1);
        LiftExchange nothing = Check.lift("N2TA01S1");
        Check.due("ways() of nothing", nothing.ways(), 1);
        Check.due("byThen(0) of nothing", nothing.byThen(0), 0);
        Check.due("byThen(4) of nothing", nothing.byThen(4), 1);
        Check.due("byThen(5) of nothing", nothing.byThen(5), 0);
        nothing.halt(0, 16, 1);
        nothing.halt(1, 1, 32);
        Check.due("byThen(0) then, of nothing", nothing.byThen(0), 1);
    }

    private static void waysOfMany() {
        LiftExchange lift = Check.lift("N3TS1");
        for (int i = 1; i <= 8; i++) {
            lift.see(1, 1);
            Check.due("ways() of " + i, lift.ways(), 1);
            Check.due("byThen(4) of " + i, lift.byThen(4), (i + 1) % 2);
            Check.due("byThen(5) of " + i, lift.byThen(5), i % 2);
        }
        LiftExchange order = Check.lift("N3I0A01A12");
        order.see(0, 1);
        order.see(1, 1);
        Check.due("ways() in the order that can be", order.ways(), 1);
        Check.due("byThen(1)", order.byThen(1), 1);
        Check.due("byThen(2)", order.byThen(2), 0);
        order.unsee();
        order.see(1, 1);
        order.see(0, 1);
        Check.due("ways() in the order that can not be", order.ways(), 0);
        // rows are told apart by their HALTS, though they end in one STATE: 2 or 3 first, the other one then
        LiftExchange rows = Check.lift("N2I0I0A01A01");
        rows.see(0, 1);
        rows.see(0, 1);
        Check.due("ways() by two ways to one STATE", rows.ways(), 4);
        Check.due("byThen(0)", rows.byThen(0), 4);
        Check.due("byThen(2)", rows.byThen(2), 0);
    }

    private static void askedLater() {
        LiftExchange lift = Check.lift("N2I0I0A01A01");
        lift.see(0, 1);
        Check.due("ways()", lift.ways(), 4);
        lift.halt(0, 1, 4);
        Check.due("about(9) behind a HALT", lift.about(9), 1);
        Check.due("ways() behind a HALT", lift.ways(), 1);
        Check.due("byThen(0) behind a HALT", lift.byThen(0), 1);
        lift.halt(0, 2, 8);
        Check.due("ways() behind two", lift.ways(), 0);
        Check.due("byThen(0) behind two", lift.byThen(0), 0);
        lift.back();
        lift.back();
        Check.due("ways() behind back()", lift.ways(), 4);
        lift.call(0);
        Check.due("ways() behind call(0)", lift.ways(), 0);
    }
}
