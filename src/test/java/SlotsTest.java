/** Promises 27 and 28: keep, again. */
final class SlotsTest {
    public static void main(String[] args) {
        keepAndAgain();
        whatIsNotKept();
        theRowOfHalts();
        twoSlots();
        anotherHouse();
        seenWhereThereIsNoSuchFloor();
        refusals();
        Check.end();
    }

    private static void keepAndAgain() {
        LiftExchange lift = Check.lift("N6I5A52S3T");
        lift.halt(5, 1, 2);
        Check.due("keep(0)", lift.keep(0), 4);
        String kept = Check.look(lift);
        lift.halt(3, 32, 16);
        Check.due("about(6)", lift.about(6), 2);
        Check.due("again(0)", lift.again(0), 4);
        Check.same("behind again(0)", Check.look(lift), kept);
        // what was kept is a copy: what comes then does not change it
        lift.halt(3, 32, 16);
        lift.back();
        lift.back();
        Check.due("about(6)", lift.about(6), 0);
        Check.due("again(0) once more", lift.again(0), 4);
        Check.same("behind again(0) once more", Check.look(lift), kept);
        Check.due("back()", lift.back(), 0);
        Check.due("where(0)", lift.where(0), 100);
        Check.due("where(1)", lift.where(1), 5);
        Check.due("about(7)", lift.about(7), 0);
        Check.due("keep(0) over it", lift.keep(0), 4);
        lift.halt(3, 32, 16);
        lift.again(0);
        Check.due("about(6) of what was kept last", lift.about(6), 0);
    }

    private static void whatIsNotKept() {
        LiftExchange lift = Check.lift("N3I1A12S0");
        lift.see(1, 1);
        lift.likely(0, 4);
        lift.keep(1);
        lift.see(2, 1);
        lift.likely(0, 7);
        lift.likely(4, 2);
        lift.wipe();
        Check.write(lift, "N5TT");
        Check.due("again(1)", lift.again(1), 3);
        Check.due("about(8): THE TEXT stays", lift.about(8), 4);
        Check.due("about(9): SEEN stays", lift.about(9), 2);
        Check.due("likely(0, 7): tenths stay", lift.likely(0, 7), 7);
        Check.due("likely(4, 2): tenths stay", lift.likely(4, 2), 2);
        Check.due("about(0)", lift.about(0), 3);
        Check.due("house()", lift.house(), 2);
        Check.due("again(1)", lift.again(1), 3);
        Check.due("about(9): the new house saw nothing", lift.about(9), 0);
        Check.due("likely(0, 7): and made all 10", lift.likely(0, 7), 10);
    }

    private static void theRowOfHalts() {
        LiftExchange lift = Check.lift("N3TTA01A12A20");
        lift.halt(0, 16, 1);
        lift.halt(1, 1, 2);
        lift.keep(0);
        lift.back();
        lift.back();
        lift.halt(2, 32, 4);
        lift.halt(0, 4, 1);
        lift.halt(1, 1, 2);
        lift.again(0);
        int[][] want = {{0, 16, 1}, {1, 1, 2}, {LiftExchange.NONE, LiftExchange.NONE, LiftExchange.NONE}};
        for (int i = 0; i < want.length; i++) {
            for (int what = 0; what < 3; what++) {
                Check.due("made(" + i + ", " + what + ") behind again(0)", lift.made(i, what), want[i][what]);
            }
        }
        Check.due("about(7)", lift.about(7), 1);
        Check.due("back()", lift.back(), 1);
        Check.due("where(0)", lift.where(0), 100);
        Check.due("where(1)", lift.where(1), 1);
        Check.due("where(2)", lift.where(2), 2);
    }

    private static void twoSlots() {
        LiftExchange lift = Check.lift("N3I1A12S0");
        lift.keep(0);
        Check.rebuild(lift, "N2T");
        Check.due("keep(1)", lift.keep(1), 1);
        Check.due("again(0)", lift.again(0), 3);
        Check.due("about(0)", lift.about(0), 3);
        Check.due("again(1)", lift.again(1), 1);
        Check.due("about(0)", lift.about(0), 2);
        Check.due("keep(0)", lift.keep(0), 1);
        Check.due("again(0)", lift.again(0), 1);
        LiftExchange fresh = new LiftExchange();
        Check.due("keep(0) of nobody", fresh.keep(0), 0);
        Check.rebuild(fresh, "N6TT");
        Check.due("again(0) of nobody", fresh.again(0), 0);
        Check.due("about(0)", fresh.about(0), 2);
    }

    private static void anotherHouse() {
        LiftExchange lift = Check.lift("N6I1A12A23A34S4T");
        String all = Check.look(lift) + lift.fewest(15) + lift.never() + lift.hire() + lift.walks();
        lift.keep(0);
        Check.rebuild(lift, "N2I0A01");
        Check.due("reached()", lift.reached(), 2);
        lift.again(0);
        lift.wipe();
        Check.write(lift, "N6I1A12A23A34S4T");
        String then = Check.look(lift) + lift.fewest(15) + lift.never() + lift.hire() + lift.walks();
        Check.same("behind again(0)", then, all);
    }

    /** SEEN stays while the house gets smaller: there no HALT can have been. */
    private static void seenWhereThereIsNoSuchFloor() {
        LiftExchange lift = Check.lift("N2TTA01");
        lift.keep(0);
        Check.rebuild(lift, "N6TTA51");
        lift.see(5, 1);
        Check.due("ways()", lift.ways(), 2);
        lift.again(0);
        Check.due("about(9)", lift.about(9), 1);
        Check.due("ways() then", lift.ways(), 0);
        Check.due("byThen(4) then", lift.byThen(4), 0);
    }

    private static void refusals() {
        int[] unknown = {-1, 2, 3, Integer.MIN_VALUE, Integer.MAX_VALUE};
        for (int slot : unknown) {
            LiftExchange lift = Check.lift("N3I1A12S0");
            Check.refused(lift, "keep(" + slot + ")", x -> x.keep(slot), LiftExchange.UNKNOWN);
            Check.refused(lift, "again(" + slot + ")", x -> x.again(slot), LiftExchange.UNKNOWN);
        }
        LiftExchange lift = Check.lift("N3I1A12S0");
        lift.keep(0);
        lift.halt(1, 1, 2);
        Check.refused(lift, "again(1)", x -> x.again(1), LiftExchange.LATE);
        lift.keep(1);
        lift.back();
        Check.due("again(1)", lift.again(1), 3);
        Check.due("about(6)", lift.about(6), 1);
    }
}
