/** The edges of promises 21 to 24 (see, unsee, ways, byThen), each sentence by a test of its own. */
final class SeenEdgesTest {
    /** At FLOOR 0 may get OUT 0, 1 and 4, IN 2, 3 and 5. */
    private static final String THREE_AND_THREE = "N2TI0I0A01A01S0";

    public static void main(String[] args) {
        floorsThereAre();
        fromOneToSix();
        eight();
        unknownAheadOfBad();
        badAheadOfFull();
        unseeOfNothingAndOfAll();
        unseeLeavesAllElse();
        waysOfNothing();
        waysWhereNoHaltCanBe();
        asManyAsCanAndOneMore();
        fromHowAllIsWhenThatIsAsked();
        oneBehindTheOther();
        waysBehindTwentyFourHalts();
        byThenOfNothing();
        byThenOfAStranger();
        byThenOfNobody();
        whereTheHouseHasFewerFloors();
        Check.end();
    }

    /** "UNKNOWN: floor". */
    private static void floorsThereAre() {
        for (int floors = 2; floors <= 6; floors++) {
            LiftExchange lift = Check.lift("N" + floors);
            Check.due("see(0, 1) of " + floors, lift.see(0, 1), 1);
            Check.due("see(" + (floors - 1) + ", 1) of " + floors, lift.see(floors - 1, 1), 2);
            for (int floor : Check.outside(0, floors - 1)) {
                Check.due("see(" + floor + ", 1) of " + floors, lift.see(floor, 1), LiftExchange.UNKNOWN);
            }
            Check.due("about(9)", lift.about(9), 2);
        }
        for (int floor : Check.outside(0, 3)) {
            Check.refused(Check::busy, "see(" + floor + ", 1)", x -> x.see(floor, 1), LiftExchange.UNKNOWN);
        }
    }

    /** "how many got OUT (1 .. 6)": "BAD: k". */
    private static void fromOneToSix() {
        for (int k = 1; k <= 6; k++) {
            Check.due("see(0, " + k + ") of a new object", new LiftExchange().see(0, k), 1);
            Check.due("see(1, " + k + ")", Check.busy().see(1, k), 3);
        }
        for (int k : Check.outside(1, 6)) {
            Check.refused(Check::busy, "see(1, " + k + ")", x -> x.see(1, k), LiftExchange.BAD);
            Check.refused(LiftExchange::new, "see(0, " + k + ") of a new object", x -> x.see(0, k), LiftExchange.BAD);
        }
    }

    private static LiftExchange seen(int times) {
        LiftExchange lift = Check.lift("N3TS1");
        for (int i = 1; i <= times; i++) {
            Check.due("see(1, 1)", lift.see(1, 1), i);
        }
        return lift;
    }

    /** "SEEN .., 8 at most": "FULL: 8". */
    private static void eight() {
        LiftExchange lift = seen(7);
        Check.due("see(1, 1), the 8th", lift.see(1, 1), 8);
        Check.due("see(1, 1), the 9th", lift.see(1, 1), LiftExchange.FULL);
        Check.due("see(2, 6), the 9th", lift.see(2, 6), LiftExchange.FULL);
        Check.due("about(9)", lift.about(9), 8);
        Check.refused(() -> seen(8), "see(1, 1), the 9th", x -> x.see(1, 1), LiftExchange.FULL);
        Check.refused(() -> seen(8), "see(0, 6), the 9th", x -> x.see(0, 6), LiftExchange.FULL);
        lift.unsee();
        Check.due("see(1, 1) behind unsee()", lift.see(1, 1), 1);
    }

    /** "UNKNOWN: floor; BAD: k": of several what is told first. */
    private static void unknownAheadOfBad() {
        for (int floor : Check.outside(0, 2)) {
            for (int k : Check.outside(1, 6)) {
                Check.due("see(" + floor + ", " + k + ")", seen(0).see(floor, k), LiftExchange.UNKNOWN);
                Check.due("see(" + floor + ", " + k + ") of eight", seen(8).see(floor, k), LiftExchange.UNKNOWN);
            }
            Check.refused(() -> seen(8), "see(" + floor + ", 1) of eight", x -> x.see(floor, 1), LiftExchange.UNKNOWN);
        }
    }

    /** "BAD: k; FULL: 8": of several what is told first. */
    private static void badAheadOfFull() {
        for (int k : Check.outside(1, 6)) {
            Check.refused(() -> seen(8), "see(1, " + k + ") of eight", x -> x.see(1, k), LiftExchange.BAD);
        }
    }

    /** "Nothing is SEEN: how much was", from nothing to eight. */
    private static void unseeOfNothingAndOfAll() {
        Check.due("unsee() of a new object", new LiftExchange().unsee(), 0);
        for (int times = 0; times <= 8; times++) {
            LiftExchange lift = seen(times);
            Check.due("unsee() of " + times, lift.unsee(), times);
            Check.due("about(9)", lift.about(9), 0);
            Check.due("ways()", lift.ways(), 1);
            Check.due("unsee() once more", lift.unsee(), 0);
        }
    }

    /** What is SEEN is told of, nothing else is changed by it, nor by "Nothing is SEEN". */
    private static void unseeLeavesAllElse() {
        LiftExchange lift = Check.busy();
        lift.unsee();
        lift.see(1, 1);
        lift.see(1, 1);
        Check.same("behind unsee()", Check.look(lift), Check.look(Check.busy()));
    }

    /** "in how many rows of HALTS that can have been": nothing SEEN is one row, that of no HALTS. */
    private static void waysOfNothing() {
        String[] houses = {"N2", "N2I0I0I0I0TT", "N2A01A01A01A01S0S0", THREE_AND_THREE, "N6I1A12A23A34S4T"};
        for (String house : houses) {
            Check.due("ways() of " + house, Check.lift(house).ways(), 1);
        }
        Check.due("ways() of a new object", new LiftExchange().ways(), 1);
        Check.due("ways() behind 24 HALTS", Check.changed(24).ways(), 1);
    }

    /** In none, where no HALT can be at that FLOOR, now or behind those that were SEEN. */
    private static void waysWhereNoHaltCanBe() {
        for (int k = 1; k <= 6; k++) {
            String[] houses = {"N2", "N2I0I0I0I0TT", "N2A01A01A01A01S0S0", "N2I1A01"};
            for (String house : houses) {
                LiftExchange lift = Check.lift(house);
                lift.see(0, k);
                Check.due("ways() of " + house + ", " + k + " SEEN", lift.ways(), 0);
                for (int who = 0; who < 6; who++) {
                    long want = lift.where(who) < 0 ? LiftExchange.UNKNOWN : 0;
                    Check.due("byThen(" + who + ") of " + house + ", " + k + " SEEN", lift.byThen(who), want);
                }
            }
        }
        LiftExchange lift = Check.lift("N2I0A01");
        lift.see(0, 1);
        Check.due("ways() of one", lift.ways(), 1);
        lift.see(0, 1);
        Check.due("ways() of one more than can be", lift.ways(), 0);
        Check.due("byThen(0) of that", lift.byThen(0), 0);
    }

    /** Of three and three one, two or three may have got OUT, no more. */
    private static void asManyAsCanAndOneMore() {
        long[] want = {1, 9, 9, 1, 0, 0, 0};
        long[] done = {0, 3, 6, 1, 0, 0, 0};
        for (int k = 1; k <= 6; k++) {
            LiftExchange lift = Check.lift(THREE_AND_THREE);
            lift.see(0, k);
            Check.due("ways(), " + k + " SEEN", lift.ways(), want[k]);
            Check.due("byThen(0), " + k + " SEEN", lift.byThen(0), done[k]);
            Check.due("byThen(4), " + k + " SEEN", lift.byThen(4), want[k] - done[k]);
            Check.due("byThen(5), " + k + " SEEN", lift.byThen(5), done[k]);
        }
    }

    /** "from how all is when that is asked (not when it was told)". */
    private static void fromHowAllIsWhenThatIsAsked() {
        LiftExchange lift = Check.lift(THREE_AND_THREE);
        lift.see(0, 2);
        Check.due("ways()", lift.ways(), 9);
        lift.keep(0);
        lift.halt(0, 1, 4);
        Check.due("ways() behind a HALT", lift.ways(), 1);
        lift.back();
        Check.due("ways() behind back()", lift.ways(), 9);
        lift.call(0);
        Check.due("ways() behind call(0)", lift.ways(), 0);
        lift.again(0);
        Check.due("ways() behind again(0)", lift.ways(), 9);
        lift.house();
        Check.due("ways() behind house(): nothing is SEEN", lift.ways(), 1);
        // told where no HALT can be, asked where one can
        LiftExchange later = Check.lift("N3I0A01S1T");
        later.halt(0, 1, 2);
        later.see(0, 1);
        Check.due("ways(), 0 is DONE", later.ways(), 0);
        later.back();
        Check.due("ways() behind back()", later.ways(), 2);
        Check.due("byThen(0)", later.byThen(0), 1);
        Check.due("byThen(5)", later.byThen(5), 1);
    }

    /** "one behind the other", from the first to the 8th. */
    private static void oneBehindTheOther() {
        LiftExchange lift = Check.lift("N3TS1");
        for (int i = 1; i <= 8; i++) {
            lift.see(1, 1);
            Check.due("ways() of " + i, lift.ways(), 1);
            Check.due("byThen(4) of " + i, lift.byThen(4), i % 2 == 0 ? 1 : 0);
            Check.due("byThen(5) of " + i, lift.byThen(5), i % 2);
        }
        // the 8th is one that can not have been, all others can
        LiftExchange last = seen(7);
        last.see(2, 1);
        Check.due("ways(), the 8th can not have been", last.ways(), 0);
        LiftExchange first = Check.lift("N3TS1");
        first.see(2, 1);
        for (int i = 2; i <= 8; i++) {
            first.see(1, 1);
        }
        Check.due("ways(), the first can not have been", first.ways(), 0);
        // whoever of 4 and 5 got OUT first for 0 or for 1 changes places with the other one until that gets OUT for a RIDER
        LiftExchange many = Check.lift("N2TTA10A10");
        long[] want = {1, 4, 8, 8, 8, 8, 8, 8, 8};
        for (int i = 1; i <= 8; i++) {
            many.see(1, 1);
            Check.due("ways() of " + i + " of many", many.ways(), want[i]);
        }
    }

    /** WAYS asks of HALTS that were seen, not of those that can be made: the row's end is no matter. */
    private static void waysBehindTwentyFourHalts() {
        LiftExchange lift = Check.changed(24);
        for (int i = 1; i <= 8; i++) {
            lift.see(1, 1);
        }
        Check.due("ways() at 24 HALTS", lift.ways(), 1);
        Check.due("byThen(4) at 24 HALTS", lift.byThen(4), 1);
    }

    /** "BY THEN: in how many of them one is DONE", where nothing is SEEN: now. */
    private static void byThenOfNothing() {
        LiftExchange lift = Check.lift("N3I1A12TS0");
        long[] want = {0, 0, -1, -1, 1, 0};
        long[] then = {1, 0, -1, -1, 1, 0};
        for (int who = 0; who < 6; who++) {
            Check.due("byThen(" + who + ") of nothing", lift.byThen(who), want[who]);
        }
        lift.halt(1, 1, 2);
        for (int who = 0; who < 6; who++) {
            Check.due("byThen(" + who + ") of nothing, 0 is DONE", lift.byThen(who), then[who]);
        }
    }

    /** "(a STRANGER: is INSIDE) behind the last": a RIDER that is INSIDE is not DONE, a STRANGER that got OUT is out. */
    private static void byThenOfAStranger() {
        LiftExchange lift = Check.lift("N2TI0A01S0");
        lift.see(0, 1);
        Check.due("ways()", lift.ways(), 4);
        Check.due("byThen(0): it got OUT", lift.byThen(0), 2);
        Check.due("byThen(1): it got IN, that is not DONE", lift.byThen(1), 0);
        Check.due("byThen(4): it did not get OUT", lift.byThen(4), 2);
        Check.due("byThen(5): it got IN", lift.byThen(5), 2);
    }

    /** "UNKNOWN" (there is no such RIDER, STRANGER). */
    private static void byThenOfNobody() {
        for (int who : new int[] {3, -1, 6, 7, 31, 32, 63, 64, Integer.MIN_VALUE, Integer.MAX_VALUE}) {
            Check.refused(Check::busy, "byThen(" + who + ")", x -> x.byThen(who), LiftExchange.UNKNOWN);
            Check.due("byThen(" + who + ") of a new object", new LiftExchange().byThen(who), LiftExchange.UNKNOWN);
        }
    }

    /** What is SEEN stays by `again`: at a FLOOR that there is no more no HALT can have been. */
    private static void whereTheHouseHasFewerFloors() {
        for (int floor = 2; floor < 6; floor++) {
            LiftExchange lift = Check.lift("N2TTA01A01");
            lift.keep(1);
            Check.rebuild(lift, "N6TTA" + floor + "1");
            lift.see(floor, 1);
            Check.due("ways(), FLOOR " + floor, lift.ways(), 2);
            lift.again(1);
            Check.due("about(9)", lift.about(9), 1);
            Check.due("ways(), no FLOOR " + floor, lift.ways(), 0);
            Check.due("byThen(0), no FLOOR " + floor, lift.byThen(0), 0);
            Check.due("see(" + floor + ", 1)", lift.see(floor, 1), LiftExchange.UNKNOWN);
            Check.due("unsee()", lift.unsee(), 1);
        }
    }
}
