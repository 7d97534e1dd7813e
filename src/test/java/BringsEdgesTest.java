/** The edges of promises 14 to 20 (reached, fewest, plan, never, hire, walks, call), each sentence by a test of its own. */
final class BringsEdgesTest {
    private static final int NEAREST = 0, FULLEST = 1, TURNS = 2;
    /** Each RIDER's HALT needs the one before it. */
    private static final String CHAIN = "N6I1A12A23A34S4T";

    public static void main(String[] args) {
        thisStateToo();
        statesWithoutTheHoist();
        asIfAnyNumberOfHaltsCouldBeMade();
        fewestOfNobody();
        fewestOfThoseThatAreDone();
        fewestThatCanNotBe();
        ridersThereAre();
        planFromItsFirstToItsLast();
        planOfNoHalts();
        planThatCanNotBe();
        planBadAheadOfNone();
        neverFromNobodyToAll();
        hireOfNone();
        hireOfOne();
        hireOfTwo();
        hireAsManyAsThereIsRoomFor();
        hireThatCanNotBe();
        walksThatNobodyCanTake();
        walksThatAreNotFewer();
        walksOfEachRider();
        walksOfLikeOnes();
        rulesThereAre();
        callUnknownAheadOfFull();
        callFullAheadOfNone();
        callOfNone();
        callFromEachFloor();
        callOfTheFullest();
        callOfAsManyAsCan();
        Check.end();
    }

    /** "how many STATES can come of HALTS from now on (this one, too)": one, where no HALT can be. */
    private static void thisStateToo() {
        String[] houses = {"N2", "N6", "N2I0I0I0I0TT", "N2A01A01A01A01S0S0", "N3I1A01", "N6T", "N6S5"};
        for (String house : houses) {
            Check.due("reached() of " + house, Check.lift(house).reached(), 1);
        }
        Check.due("reached() of a new object", new LiftExchange().reached(), 1);
        LiftExchange lift = Check.lift("N2I0A01");
        Check.due("reached() ahead of the last HALT", lift.reached(), 2);
        lift.halt(0, 1, 2);
        Check.due("reached() behind the last HALT", lift.reached(), 1);
    }

    /** "STATES: who is where (not where THE HOIST is)": one HALT moves THE HOIST, the next one brings all back but that. */
    private static void statesWithoutTheHoist() {
        LiftExchange lift = Check.lift("N6TS5");
        Check.due("reached() from FLOOR 0", lift.reached(), 2);
        lift.halt(5, 16, 32);
        Check.due("reached() from FLOOR 5", lift.reached(), 2);
        lift.halt(5, 32, 16);
        Check.due("reached(), all as at first but THE HOIST", lift.reached(), 2);
    }

    private static String plan(LiftExchange lift, int riders, int i) {
        return lift.plan(riders, i, 0) + ":" + lift.plan(riders, i, 1) + "/" + lift.plan(riders, i, 2);
    }

    /** "as if any number of HALTS could be made": it is told at 24 as it was told at none. */
    private static void asIfAnyNumberOfHaltsCouldBeMade() {
        LiftExchange lift = Check.lift("N3TS1A12A21");
        dueBrings(lift);
        for (int i = 1; i <= 24; i++) {
            Check.due("halt", i % 2 == 1 ? lift.halt(1, 16, 32) : lift.halt(1, 32, 16), 1);
        }
        dueBrings(lift);
    }

    private static void dueBrings(LiftExchange lift) {
        int halts = lift.about(6);
        int reached = Check.lift("N3TS1A12A21").reached();
        Check.due("reached() at " + halts, lift.reached(), reached);
        Check.due("fewest(3) at " + halts, lift.fewest(3), 3);
        Check.same("plan(3, 0, ..) at " + halts, plan(lift, 3, 0), "1:16/1");
        Check.same("plan(3, 1, ..) at " + halts, plan(lift, 3, 1), "2:1/2");
        Check.same("plan(3, 2, ..) at " + halts, plan(lift, 3, 2), "1:2/16");
        Check.due("never() at " + halts, lift.never(), 0);
        Check.due("hire() at " + halts, lift.hire(), 0);
        Check.due("walks() at " + halts, lift.walks(), 1);
    }

    /** "FEWEST for some RIDERS": for none of them it takes none. */
    private static void fewestOfNobody() {
        String[] houses = {"N2", "N2I0I0I0I0TT", "N2A01A01A01A01S0S0", CHAIN};
        for (String house : houses) {
            Check.due("fewest(0) of " + house, Check.lift(house).fewest(0), 0);
        }
        Check.due("fewest(0) of a new object", new LiftExchange().fewest(0), 0);
    }

    /** "how few HALTS make all of them DONE": those that are need none more. */
    private static void fewestOfThoseThatAreDone() {
        LiftExchange lift = Check.lift("N2I0I0A01A01S1S1");
        Check.due("fewest(15)", lift.fewest(15), 2);
        lift.halt(0, 3, 12);
        Check.due("fewest(3), DONE", lift.fewest(3), 0);
        Check.due("fewest(4)", lift.fewest(4), 1);
        Check.due("fewest(15)", lift.fewest(15), 1);
        lift.halt(1, 12, 48);
        for (int riders = 0; riders < 16; riders++) {
            Check.due("fewest(" + riders + "), all DONE", lift.fewest(riders), 0);
            Check.due("plan(" + riders + ", 0, 0), all DONE", lift.plan(riders, 0, 0), LiftExchange.NONE);
        }
    }

    /** "FEWEST; NONE": one of them is enough by which it can not be. */
    private static void fewestThatCanNotBe() {
        LiftExchange lift = Check.lift("N4I1A12A31S2");
        int[] want = {0, 1, 2, 2};
        for (int riders = 0; riders < 8; riders++) {
            int fewest = riders < 4 ? want[riders] : LiftExchange.NONE;
            Check.due("fewest(" + riders + ") without 2", lift.fewest(riders), fewest);
        }
        LiftExchange nobodyInside = Check.lift("N2A01A01A01A01S0S0");
        for (int riders = 1; riders < 16; riders++) {
            Check.due("fewest(" + riders + "), nobody INSIDE", nobodyInside.fewest(riders), LiftExchange.NONE);
        }
    }

    /** "BAD: riders (bits of RIDERS)", from no RIDER to four; STRANGERS are none. */
    private static void ridersThereAre() {
        for (int riders = 0; riders <= 4; riders++) {
            int all = (1 << riders) - 1;
            String house = Check.house(3, riders, 2);
            LiftExchange lift = Check.lift(house);
            for (int bits = 0; bits <= all; bits++) {
                Check.due("fewest(" + bits + ") of " + house + " is not BAD", lift.fewest(bits) == LiftExchange.BAD ? 1 : 0, 0);
                Check.due("plan(" + bits + ", ..) of " + house + " is not BAD", lift.plan(bits, 9, 0), LiftExchange.NONE);
            }
            int[] bad = {-1, all + 1, all + 2, 16, 16 + all, 32, 48, 64, 1 << 30, Integer.MIN_VALUE, Integer.MAX_VALUE};
            for (int bits : bad) {
                Check.due("fewest(" + bits + ") of " + house, lift.fewest(bits), LiftExchange.BAD);
                Check.due("plan(" + bits + ", 0, 0) of " + house, lift.plan(bits, 0, 0), LiftExchange.BAD);
            }
        }
        for (int bits : Check.outside(0, 7)) {
            Check.refused(Check::busy, "fewest(" + bits + ")", x -> x.fewest(bits), LiftExchange.BAD);
            Check.refused(Check::busy, "plan(" + bits + ", 0, 0)", x -> x.plan(bits, 0, 0), LiftExchange.BAD);
        }
    }

    /** "Of the i-th HALT (from 0) ..; NONE: there is none such." */
    private static void planFromItsFirstToItsLast() {
        String[] want = {"1:1/2", "2:2/4", "3:4/8", "4:8/16"};
        for (int riders = 1; riders <= 4; riders++) {
            LiftExchange lift = Check.lift(CHAIN);
            int bits = (1 << riders) - 1;
            Check.due("fewest(" + bits + ")", lift.fewest(bits), riders);
            for (int i = 0; i < riders; i++) {
                Check.same("plan(" + bits + ", " + i + ", ..)", plan(lift, bits, i), want[i]);
            }
            for (int i : Check.outside(0, riders - 1)) {
                Check.same("plan(" + bits + ", " + i + ", ..)", plan(lift, bits, i), "-9:-9/-9");
            }
        }
    }

    /** A PLAN for nobody, or for those that are DONE, has no HALTS. */
    private static void planOfNoHalts() {
        LiftExchange lift = Check.lift("N2I0A01");
        lift.halt(0, 1, 2);
        for (int i : new int[] {0, 1, -1, 23, 24, Integer.MIN_VALUE, Integer.MAX_VALUE}) {
            Check.same("plan(0, " + i + ", ..) of a new object", plan(new LiftExchange(), 0, i), "-9:-9/-9");
            Check.same("plan(0, " + i + ", ..)", plan(Check.lift(CHAIN), 0, i), "-9:-9/-9");
            Check.same("plan(1, " + i + ", ..), DONE", plan(lift, 1, i), "-9:-9/-9");
        }
    }

    /** "NONE: there is none such", where it can not be. */
    private static void planThatCanNotBe() {
        LiftExchange lift = Check.lift("N4I1A12A31S2");
        for (int i : new int[] {0, 1, 2, -1, 23, 24, Integer.MIN_VALUE, Integer.MAX_VALUE}) {
            Check.same("plan(4, " + i + ", ..)", plan(lift, 4, i), "-9:-9/-9");
            Check.same("plan(5, " + i + ", ..)", plan(lift, 5, i), "-9:-9/-9");
            Check.same("plan(7, " + i + ", ..)", plan(lift, 7, i), "-9:-9/-9");
        }
        Check.refused(Check::busy, "plan(4, 0, 0)", x -> x.plan(4, 0, 0), LiftExchange.NONE);
    }

    /** "BAD: riders, what", ahead of NONE. */
    private static void planBadAheadOfNone() {
        for (int what : Check.outside(0, 2)) {
            for (int i : new int[] {0, 1, -1, Integer.MIN_VALUE, Integer.MAX_VALUE}) {
                Check.due("plan(1, " + i + ", " + what + ")", Check.lift(CHAIN).plan(1, i, what), LiftExchange.BAD);
                Check.due("plan(0, " + i + ", " + what + ")", Check.lift(CHAIN).plan(0, i, what), LiftExchange.BAD);
                Check.due("plan(16, " + i + ", " + what + ")", Check.lift(CHAIN).plan(16, i, what), LiftExchange.BAD);
                Check.due("plan(2, " + i + ", " + what + ")", Check.lift("N2I0A01").plan(2, i, what), LiftExchange.BAD);
            }
            Check.refused(Check::busy, "plan(4, 0, " + what + ")", x -> x.plan(4, 0, what), LiftExchange.BAD);
            Check.due("plan(0, 0, ..) of a new object", new LiftExchange().plan(0, 0, what), LiftExchange.BAD);
        }
        for (int i : new int[] {1, 4, -1, Integer.MIN_VALUE, Integer.MAX_VALUE}) {
            Check.due("plan(16, " + i + ", 0)", Check.lift(CHAIN).plan(16, i, 0), LiftExchange.BAD);
            Check.due("plan(4, " + i + ", 0) of two", Check.lift("N2I0A01").plan(4, i, 0), LiftExchange.BAD);
        }
    }

    /** "RIDERS that no HALTS make DONE", as bits of RIDERS alone. */
    private static void neverFromNobodyToAll() {
        for (int riders = 0; riders <= 4; riders++) {
            int all = (1 << riders) - 1;
            Check.due("never() of " + riders + ", nobody stands", Check.lift("N2" + "I0".repeat(riders) + "TT").never(), all);
            Check.due("never() of " + riders + ", nobody INSIDE", Check.lift("N2" + "A01".repeat(riders) + "S0S1").never(), all);
        }
        Check.due("never() of a new object", new LiftExchange().never(), 0);
        Check.due("never() of " + CHAIN, Check.lift(CHAIN).never(), 0);
        // all but one can be brought, whichever it is
        for (int who = 0; who < 4; who++) {
            StringBuilder house = new StringBuilder("N3");
            for (int rider = 0; rider < 4; rider++) {
                house.append(rider == who ? "I1" : "I2");
            }
            LiftExchange lift = Check.lift(house + "S2S2");
            Check.due("never() of " + house, lift.never(), 1 << who);
        }
        LiftExchange done = Check.lift("N2I0A01");
        done.halt(0, 1, 2);
        Check.due("never(), 0 is DONE", done.never(), 2);
    }

    /** "HIRED: 0 none are needed". */
    private static void hireOfNone() {
        String[] houses = {"N2", "N2TT", "N2S0S1", CHAIN, "N2I0S0", "N2I0I0S0S0", "N3TA02S2"};
        for (String house : houses) {
            Check.due("hire() of " + house, Check.lift(house).hire(), 0);
        }
        Check.due("hire() of a new object", new LiftExchange().hire(), 0);
        LiftExchange done = Check.lift("N2I0S0");
        done.halt(0, 1, 16);
        Check.due("hire(), all are DONE", done.hire(), 0);
    }

    /** "10 and the FLOOR of one", from FLOOR 0 to the last one. */
    private static void hireOfOne() {
        for (int floors = 2; floors <= 6; floors++) {
            for (int floor = 0; floor < floors; floor++) {
                String rider = "N" + floors + "I" + floor;
                Check.due("hire() of " + rider, Check.lift(rider).hire(), 10 + floor);
                Check.due("hire() of " + rider + "T", Check.lift(rider + "T").hire(), 10 + floor);
                String two = rider + "I" + floor + "S" + floor;
                Check.due("hire() of " + two, Check.lift(two).hire(), 10 + floor);
            }
        }
    }

    /** "100, 10 times the FLOOR of one, and that of the other one", "(the less first)". */
    private static void hireOfTwo() {
        for (int floors = 2; floors <= 6; floors++) {
            for (int one = 0; one < floors; one++) {
                for (int other = 0; other < floors; other++) {
                    String house = "N" + floors + "I" + one + "I" + other;
                    int told = 100 + 10 * Math.min(one, other) + Math.max(one, other);
                    Check.due("hire() of " + house, Check.lift(house).hire(), told);
                }
            }
        }
    }

    /** "as many as there is room for: two in all". */
    private static void hireAsManyAsThereIsRoomFor() {
        String[] strangers = {"T", "S0", "TT", "S0T", "S0S0"};
        for (String there : strangers) {
            // two more are needed, at FLOORS 1 and 2
            String two = "N3I1I2" + there;
            Check.due("hire() of " + two, Check.lift(two).hire(), LiftExchange.NONE);
            String one = "N3I2" + there;
            boolean room = there.equals("T") || there.equals("S0");
            Check.due("hire() of " + one, Check.lift(one).hire(), room ? 12 : LiftExchange.NONE);
        }
        Check.due("hire() of N3I1I2", Check.lift("N3I1I2").hire(), 112);
    }

    /** "NONE: it can not be": nobody is INSIDE, or more than two are needed. */
    private static void hireThatCanNotBe() {
        String[] houses = {"N2A01", "N2A01S0", "N2A01S0S1", "N2A01A01A01A01", "N2I0I0I0", "N6I0I1I2I3", "N3I0I1I2S0", "N2I0TT"};
        for (String house : houses) {
            Check.due("hire() of " + house, Check.lift(house).hire(), LiftExchange.NONE);
        }
    }

    /** "of RIDERS that stand one goes": not those that are INSIDE or DONE, not STRANGERS, not out of the HOUSE. */
    private static void walksThatNobodyCanTake() {
        String[] houses = {"N2", "N2TT", "N2S0S1", "N2I0", "N2I1", "N6I0I1I2I3", "N2I0I0I0I0TT", "N3I1TS0", "N3TS0I1"};
        for (String house : houses) {
            Check.due("walks() of " + house, Check.lift(house).walks(), LiftExchange.NONE);
        }
        Check.due("walks() of a new object", new LiftExchange().walks(), LiftExchange.NONE);
        // INSIDE, it does not walk from where it stood to the FLOOR that it WANTS
        LiftExchange inside = Check.lift("N2TA01S1");
        Check.due("walks(), 0 stands", inside.walks(), 1);
        inside.halt(0, 16, 1);
        Check.due("fewest(1), 0 is INSIDE", inside.fewest(1), 1);
        Check.due("walks(), 0 is INSIDE", inside.walks(), LiftExchange.NONE);
        inside.halt(1, 1, 32);
        Check.due("walks(), 0 is DONE", inside.walks(), LiftExchange.NONE);
        String[] chains = {"N3I1A12S2", "N4I1A12A23S3", "N5I1A12A23A34S4"};
        for (int last = 1; last <= 3; last++) {
            LiftExchange chain = Check.lift(chains[last - 1]);
            for (int i = 0; i < last; i++) {
                chain.halt(i + 1, 1 << i, 2 << i);
            }
            Check.due("fewest(..) of " + chains[last - 1] + ", the last RIDER is INSIDE", chain.fewest((2 << last) - 1), 1);
            Check.due("walks() of " + chains[last - 1] + ", the last RIDER is INSIDE", chain.walks(), LiftExchange.NONE);
        }
        // DONE at 1, 0 does not walk to 2, where 1 can not get OUT without it
        LiftExchange done = Check.lift("N3I1I2S1");
        done.halt(1, 1, 16);
        Check.due("never(), 0 is DONE", done.never(), 2);
        Check.due("walks(), 0 is DONE, 1 is INSIDE", done.walks(), LiftExchange.NONE);
        // at FLOOR 0 and at the last one there is one way to go: it helps not, and there is no other one
        Check.due("walks() from FLOOR 0", Check.lift("N3A02").walks(), LiftExchange.NONE);
        Check.due("walks() from the last FLOOR", Check.lift("N3A20").walks(), LiftExchange.NONE);
    }

    /** "NONE: none makes it fewer (where it can not be, any is fewer)". */
    private static void walksThatAreNotFewer() {
        // three HALTS, whether one walks or not
        Check.due("walks(), as few without it", Check.lift("N4A13A30S0T").walks(), LiftExchange.NONE);
        Check.due("walks() of " + CHAIN, Check.lift(CHAIN).walks(), LiftExchange.NONE);
        Check.due("walks(), none makes it that it can be", Check.lift("N2I0A01S1").walks(), LiftExchange.NONE);
        LiftExchange done = Check.lift("N2I0I0A01A01S1S1");
        done.halt(0, 3, 12);
        done.halt(1, 12, 48);
        Check.due("walks(), all are DONE", done.walks(), LiftExchange.NONE);
    }

    /**
     * "WALKS: 10 times the RIDER, and 1 if it goes up": of each RIDER where it could not be, where it could be; where it
     * WANTS to walk to, and where not.
     */
    private static void walksOfEachRider() {
        String[][] houses = {
            {"N2A10", "N4A13A30T", "N3A10S0T", "N4A20I1S1S0"},
            {"N2A01", "N6A03A31T", "N2A01TS1", "N5A04I1S4S1"},
            {"N2I0A10S0", "N3A20A12T", "N3I2A10S0S2", "N4I0A13S0S3"},
            {"N2I0A01S0", "N3A02A10T", "N3I0A12S0S2", "N4I1A02S2S1"},
            {"N2I0A01A10S1", "N6A40I2A14S2", "N3I0A02A10S0S2", "N4A31A13A20TS0"},
            {"N2I1A10A01S0", "N5A31I3A04S4", "N3I2A12A01S2S2", "N4A32I1A03S1S2"},
            {"N3A01A20I2A21S1", "N3A10A01A01A20T", "N4A03A30A01A10S1T", "N4I2A20A20A12S0S0"},
            {"N2A10I1I0A01S0S0", "N3A21A12A21A02T", "N3A02A10I1A01S2S1", "N4I2A23A31A03S1S3"}};
        for (int walk = 0; walk < houses.length; walk++) {
            for (String house : houses[walk]) {
                Check.due("walks() of " + house, Check.lift(house).walks(), 10 * (walk / 2) + walk % 2);
            }
        }
    }

    /** "of like ones the least RIDER, down ahead of up"; but the one by which it is least ahead of both. */
    private static void walksOfLikeOnes() {
        Check.due("walks(), 0 or 1 down", Check.lift("N2A10A10TS0").walks(), 0);
        Check.due("walks(), 0 or 1 up", Check.lift("N2A01A01TS1").walks(), 1);
        Check.due("walks(), 1 or 2 down", Check.lift("N2A01A10A10T").walks(), 10);
        Check.due("walks(), 1 or 2 up", Check.lift("N2A10A01A01T").walks(), 11);
        Check.due("walks(), 0 up or 2 down", Check.lift("N3A12A01A10S2T").walks(), 1);
        Check.due("walks(), 0 down or up", Check.lift("N3A10A02I2S2S2").walks(), 0);
        Check.due("walks(), 1 down or up", Check.lift("N3A01A10I2S2S1").walks(), 10);
        Check.due("walks(), 2 down or up", Check.lift("N3I0A20A12S0S0").walks(), 20);
        Check.due("walks(), 3 down or up", Check.lift("N4A10A01A32A23S2T").walks(), 30);
        // it can not be; 3 HALTS if 0 walks, 2 if 1 does
        Check.due("walks(), 1 ahead of 0", Check.lift("N3A20A21S0T").walks(), 10);
        // 4 HALTS; 3 if 1 goes up, 2 if 2 does
        Check.due("walks(), 2 ahead of 1", Check.lift("N4I1A13A12S2S3").walks(), 21);
        // 3 HALTS; 2 if it goes down, 1 if up
        Check.due("walks(), up ahead of down", Check.lift("N4A23I1S3S1").walks(), 1);
    }

    /** "UNKNOWN (there is no such .. RULE)". */
    private static void rulesThereAre() {
        for (int rule = NEAREST; rule <= TURNS; rule++) {
            Check.due("call(" + rule + ")", Check.lift("N3TS1").call(rule), 1);
        }
        for (int rule : Check.outside(NEAREST, TURNS)) {
            Check.refused(Check::busy, "call(" + rule + ")", x -> x.call(rule), LiftExchange.UNKNOWN);
            Check.refused(LiftExchange::new, "call(" + rule + ") of nobody", x -> x.call(rule), LiftExchange.UNKNOWN);
        }
    }

    /** "UNKNOWN; FULL": of several what is told first. */
    private static void callUnknownAheadOfFull() {
        for (int rule : Check.outside(NEAREST, TURNS)) {
            Check.refused(() -> Check.changed(24), "call(" + rule + ") at 24", x -> x.call(rule), LiftExchange.UNKNOWN);
            Check.refused(BringsEdgesTest::fullAndNone, "call(" + rule + ") at 24, no HALT", x -> x.call(rule),
                LiftExchange.UNKNOWN);
        }
    }

    /** 24 HALTS; by the last of them the last one that stood got IN. */
    private static LiftExchange fullAndNone() {
        LiftExchange lift = Check.lift("N3TS1I1");
        for (int i = 0; i < 23; i++) {
            lift.halt(1, i % 2 == 0 ? 16 : 32, i % 2 == 0 ? 32 : 16);
        }
        Check.due("halt(1, 1, 16)", lift.halt(1, 1, 16), 1);
        return lift;
    }

    /** "FULL: 24 (ahead of NONE)". */
    private static void callFullAheadOfNone() {
        for (int rule = NEAREST; rule <= TURNS; rule++) {
            int called = rule;
            LiftExchange lift = Check.changed(23);
            Check.due("call(" + rule + "), the 24th", lift.call(rule), 1);
            Check.same("made(23, ..)", Check.made(lift, 23), "1:32/16");
            Check.due("call(" + rule + "), the 25th", lift.call(rule), LiftExchange.FULL);
            Check.refused(() -> Check.changed(24), "call(" + rule + ") at 24", x -> x.call(called), LiftExchange.FULL);
            Check.refused(BringsEdgesTest::fullAndNone, "call(" + rule + ") at 24, no HALT", x -> x.call(called),
                LiftExchange.FULL);
        }
    }

    /** "NONE: none can be": nothing is changed by it. */
    private static void callOfNone() {
        String[] houses = {"N2", "N6TT", "N6S0S5", "N2I0I0I0I0TT", "N2A01A01A01A01S0S0", "N3I1A01", "N3I2A12S0"};
        for (int rule = NEAREST; rule <= TURNS; rule++) {
            int called = rule;
            for (String house : houses) {
                Check.refused(() -> Check.lift(house), "call(" + rule + ") of " + house, x -> x.call(called), LiftExchange.NONE);
            }
            Check.refused(LiftExchange::new, "call(" + rule + ") of a new object", x -> x.call(called), LiftExchange.NONE);
            Check.refused(BringsEdgesTest::emptied, "call(" + rule + ") behind a HALT", x -> x.call(called), LiftExchange.NONE);
        }
    }

    private static LiftExchange emptied() {
        LiftExchange lift = Check.lift("N6I5A50");
        Check.due("halt(5, 1, 2)", lift.halt(5, 1, 2), 1);
        return lift;
    }

    /** THE HOIST is at a FLOOR; two STRANGERS are INSIDE; RIDER 1 stands at one FLOOR, 2 at that or at another one. */
    private static LiftExchange between(int hoist, int one, int other) {
        String pair = "A" + one + (one == 0 ? 1 : 0) + "A" + other + (other == 0 ? 1 : 0);
        LiftExchange lift = Check.lift("N6I" + hoist + pair + "TS" + hoist);
        Check.due("halt(" + hoist + ", 1, 32)", lift.halt(hoist, 1, 32), 1);
        return lift;
    }

    /**
     * "NEAREST: .. fewest FLIGHTS ..; of like ones the least", "FULLEST: .. of like ones that with fewest FLIGHTS, then
     * the least", "TURNS: .. its own FLOOR, then up to the last, then from the last down to 0", from each FLOOR to each.
     */
    private static void callFromEachFloor() {
        for (int hoist = 0; hoist < 6; hoist++) {
            for (int one = 0; one < 6; one++) {
                for (int other = one; other < 6; other++) {
                    int near = Math.abs(one - hoist) <= Math.abs(other - hoist) ? one : other;
                    int turn = one >= hoist ? one : other;
                    String of = " at " + hoist + " of " + one + " and " + other;
                    Check.due("call(0)" + of, between(hoist, one, other).call(NEAREST), near);
                    Check.due("call(1)" + of, between(hoist, one, other).call(FULLEST), near);
                    Check.due("call(2)" + of, between(hoist, one, other).call(TURNS), turn);
                }
            }
        }
    }

    /** "FULLEST: that at which most can get IN and OUT", ahead of that with fewest FLIGHTS. */
    private static void callOfTheFullest() {
        Check.due("call(1), two at 5, one at 0", Check.lift("N6TTA01A50A50").call(FULLEST), 5);
        Check.due("call(1), one at each", Check.lift("N6TTA01A50").call(FULLEST), 0);
        Check.due("call(1), two at 5, one at 4", Check.lift("N6TTA40A50A51").call(FULLEST), 5);
        Check.due("call(1), two at 1, two at 5", Check.lift("N6TTA12A12A50A50").call(FULLEST), 1);
        // where three may get OUT and one IN, or one OUT and three IN, it is one
        Check.due("call(1), three and one, two and one", Check.lift("N6TTI5A50A10").call(FULLEST), 1);
        Check.due("call(1), one and three, one and one", Check.lift("N6TA50A50A50A10").call(FULLEST), 1);
    }

    /** "As many as can get OUT and IN there, do, the least numbers of each", from one to three. */
    private static void callOfAsManyAsCan() {
        String[] houses = {"N2I0I0I0I0TS0", "N2TA01A01A01A01S0", "N2I0I0A01A01TS0", "N2TTA01A01A01A01", "N2I0I0I0A01TS0",
            "N2TTA01"};
        String[] want = {"0:1/32", "0:16/1", "0:19/44", "0:48/3", "0:3/40", "0:16/1"};
        for (int i = 0; i < houses.length; i++) {
            for (int rule = NEAREST; rule <= TURNS; rule++) {
                LiftExchange lift = Check.lift(houses[i]);
                Check.due("call(" + rule + ") of " + houses[i], lift.call(rule), 0);
                Check.same("made(0, ..) of " + houses[i], Check.made(lift, 0), want[i]);
            }
        }
    }
}
