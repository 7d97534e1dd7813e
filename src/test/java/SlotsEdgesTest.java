/** The edges of promises 27 and 28 (keep, again), each sentence by a test of its own. */
final class SlotsEdgesTest {
    public static void main(String[] args) {
        slotsThereAre();
        noneWereKept();
        unknownAheadOfLate();
        keepOfNobodyAndOfAll();
        keepChangesNothing();
        keepIsOfThatTime();
        keepOverWhatWasKept();
        twoSlots();
        keepOfTwentyFourHalts();
        againOnceMore();
        allButTextTenthsAndSeen();
        keptThroughEachCall();
        Check.end();
    }

    /** "SLOTS 0 .. 1": "UNKNOWN". */
    private static void slotsThereAre() {
        for (int slot = 0; slot <= 1; slot++) {
            LiftExchange lift = Check.busy();
            Check.due("keep(" + slot + ")", lift.keep(slot), 5);
            Check.due("again(" + slot + ")", lift.again(slot), 5);
        }
        for (int slot : Check.outside(0, 1)) {
            Check.refused(Check::busy, "keep(" + slot + ")", x -> x.keep(slot), LiftExchange.UNKNOWN);
            Check.refused(Check::busy, "again(" + slot + ")", x -> x.again(slot), LiftExchange.UNKNOWN);
        }
    }

    /** "LATE: none were kept", slot by slot. */
    private static void noneWereKept() {
        for (int slot = 0; slot <= 1; slot++) {
            int asked = slot;
            Check.refused(LiftExchange::new, "again(" + slot + ") of a new object", x -> x.again(asked), LiftExchange.LATE);
            LiftExchange lift = Check.lift("N3I1A12T");
            lift.keep(1 - slot);
            Check.due("again(" + slot + "), the other one was kept", lift.again(slot), LiftExchange.LATE);
            Check.due("again(" + (1 - slot) + ")", lift.again(1 - slot), 3);
            lift.house();
            Check.due("again(" + slot + ") behind house()", lift.again(slot), LiftExchange.LATE);
        }
        Check.refused(Check::busy, "again(1)", x -> x.again(1), LiftExchange.LATE);
    }

    /** "UNKNOWN; LATE": of several what is told first; no SLOT 2 is kept either. */
    private static void unknownAheadOfLate() {
        for (int slot : Check.outside(0, 1)) {
            Check.refused(LiftExchange::new, "again(" + slot + "), none kept", x -> x.again(slot), LiftExchange.UNKNOWN);
            Check.refused(LiftExchange::new, "keep(" + slot + "), none kept", x -> x.keep(slot), LiftExchange.UNKNOWN);
        }
    }

    /** "how many RIDERS and STRANGERS", from nobody to four and two. */
    private static void keepOfNobodyAndOfAll() {
        LiftExchange fresh = new LiftExchange();
        Check.due("keep(0) of a new object", fresh.keep(0), 0);
        Check.rebuild(fresh, "N6I0I1I2I3TS5");
        Check.due("keep(1) of all", fresh.keep(1), 6);
        Check.due("again(0) of a new object", fresh.again(0), 0);
        Check.due("about(0)", fresh.about(0), 2);
        Check.due("where(0)", fresh.where(0), LiftExchange.UNKNOWN);
        Check.due("may(2, true)", fresh.may(2, true), LiftExchange.UNKNOWN);
        Check.due("again(1) of all", fresh.again(1), 6);
        Check.due("about(0)", fresh.about(0), 6);
        Check.due("where(5)", fresh.where(5), 5);
        for (int riders = 0; riders <= 4; riders++) {
            for (int strangers = 0; strangers <= 2; strangers++) {
                LiftExchange lift = Check.lift(Check.house(4, riders, strangers));
                Check.due("keep(0)", lift.keep(0), riders + strangers);
                Check.rebuild(lift, riders == 0 ? "N2I0" : "N2");
                Check.due("again(0)", lift.again(0), riders + strangers);
                Check.due("about(1)", lift.about(1), riders);
                Check.due("about(2)", lift.about(2), strangers);
            }
        }
    }

    /** "They are kept": and stay as they are. */
    private static void keepChangesNothing() {
        LiftExchange lift = Check.busy();
        lift.keep(0);
        lift.keep(1);
        Check.same("behind keep(..)", Check.look(lift), Check.look(Check.busy()));
    }

    /** "They are as they were kept": what comes then is no part of it. */
    private static void keepIsOfThatTime() {
        LiftExchange lift = Check.lift("N2I0I0TA01A01S0");
        lift.halt(0, 1, 4);
        lift.keep(0);
        String kept = Check.look(lift);
        lift.halt(0, 18, 40);
        lift.again(0);
        Check.same("behind a HALT and again(0)", Check.look(lift), kept);
        lift.back();
        lift.halt(0, 19, 44);
        lift.again(0);
        Check.same("behind back(), a HALT, again(0)", Check.look(lift), kept);
    }

    private static void keepOverWhatWasKept() {
        LiftExchange lift = Check.lift("N3TS1");
        for (int halts = 0; halts <= 3; halts++) {
            lift.keep(1);
            lift.halt(1, halts % 2 == 0 ? 16 : 32, halts % 2 == 0 ? 32 : 16);
            Check.due("again(1)", lift.again(1), 2);
            Check.due("about(6)", lift.about(6), halts);
            lift.halt(1, halts % 2 == 0 ? 16 : 32, halts % 2 == 0 ? 32 : 16);
        }
    }

    /** One SLOT is no part of the other one. */
    private static void twoSlots() {
        LiftExchange lift = Check.lift("N3TS1");
        lift.keep(0);
        lift.halt(1, 16, 32);
        lift.keep(1);
        lift.halt(1, 32, 16);
        lift.again(0);
        Check.due("about(6) of SLOT 0", lift.about(6), 0);
        lift.again(1);
        Check.due("about(6) of SLOT 1", lift.about(6), 1);
        Check.due("where(4)", lift.where(4), 1);
        lift.again(0);
        Check.due("about(6) of SLOT 0 once more", lift.about(6), 0);
        Check.due("where(4)", lift.where(4), 100);
    }

    /** The whole row is kept, from the first HALT to the 24th, and is as full as it was. */
    private static void keepOfTwentyFourHalts() {
        LiftExchange lift = Check.changed(24);
        lift.keep(0);
        Check.rebuild(lift, "N6I5A50");
        lift.halt(5, 1, 2);
        Check.due("again(0)", lift.again(0), 2);
        Check.due("about(6)", lift.about(6), 24);
        for (int i = 0; i < 24; i++) {
            Check.same("made(" + i + ", ..)", Check.made(lift, i), i % 2 == 0 ? "1:16/32" : "1:32/16");
        }
        Check.due("halt(1, 16, 32), the 25th", lift.halt(1, 16, 32), LiftExchange.FULL);
        for (int rule = 0; rule < 3; rule++) {
            Check.due("call(" + rule + "), the 25th", lift.call(rule), LiftExchange.FULL);
        }
        for (int left = 23; left >= 0; left--) {
            Check.due("back()", lift.back(), left);
        }
        Check.due("back()", lift.back(), LiftExchange.LATE);
        Check.due("again(0) once more", lift.again(0), 2);
        Check.due("about(6)", lift.about(6), 24);
    }

    /** What was kept stays kept, however often it is gone on from. */
    private static void againOnceMore() {
        LiftExchange lift = Check.lift("N3I1A12T");
        lift.keep(0);
        String kept = Check.look(lift);
        for (int i = 0; i < 3; i++) {
            lift.halt(1, 1, 2);
            Check.due("again(0)", lift.again(0), 3);
            Check.same("behind again(0), " + i, Check.look(lift), kept);
        }
    }

    /** "SLOTS 0 .. 1 keep all of that but THE TEXT, tenths and what is SEEN": these stay as they are. */
    private static void allButTextTenthsAndSeen() {
        LiftExchange lift = Check.lift("N3I1A12T");
        lift.keep(0);
        lift.wipe();
        Check.write(lift, "N4T");
        lift.likely(0, 1);
        lift.likely(1, 2);
        lift.likely(4, 3);
        lift.see(1, 1);
        lift.see(2, 1);
        lift.halt(1, 1, 2);
        Check.due("again(0)", lift.again(0), 3);
        Check.due("about(8)", lift.about(8), 3);
        Check.due("about(9)", lift.about(9), 2);
        Check.due("about(6)", lift.about(6), 0);
        Check.due("likely(0, 10)", lift.likely(0, 10), 1);
        Check.due("likely(1, 10)", lift.likely(1, 10), 2);
        Check.due("likely(4, 10)", lift.likely(4, 10), 3);
        Check.due("fault()", lift.fault(), LiftExchange.NONE);
        Check.due("house() of the text that stayed", lift.house(), 1);
        Check.due("about(0)", lift.about(0), 4);
        // nothing was SEEN and all tenths were 10 when it was kept: that does not come again
        lift.likely(4, 6);
        lift.see(0, 1);
        lift.again(0);
        Check.due("unsee()", lift.unsee(), 1);
        Check.due("likely(4, 6)", lift.likely(4, 6), 6);
    }

    /** What was kept is changed by no call but keep. */
    private static void keptThroughEachCall() {
        LiftExchange lift = Check.lift("N3I1A12TS2");
        lift.halt(1, 1, 2);
        lift.keep(1);
        String kept = Check.look(lift);
        lift.hire();
        lift.walks();
        lift.plan(3, 0, 0);
        lift.call(0);
        lift.back();
        lift.back();
        lift.house();
        lift.wipe();
        Check.rebuild(lift, "N2");
        Check.rebuild(lift, "N3I1A12TS2");
        Check.due("again(1)", lift.again(1), 4);
        Check.same("behind all that", Check.look(lift), kept);
    }
}
