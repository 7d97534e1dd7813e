/** Promises 14 to 19: reached, fewest, plan, never, hire, walks. */
final class BringsTest {
    public static void main(String[] args) {
        reached();
        fewest();
        fewestThatAreBad();
        plan();
        planThatIsBad();
        never();
        hire();
        walks();
        asManyHaltsAsOneLikes();
        nothingIsChanged();
        askedFirst();
        Check.end();
    }

    private static void reached() {
        Check.due("nobody INSIDE", Check.lift("N6A01A12A23A34S4S5").reached(), 1);
        Check.due("nobody stands", Check.lift("N3I0I1I2I2TT").reached(), 1);
        Check.due("one HALT", Check.lift("N2I0A01").reached(), 2);
        Check.due("one HALT of two", Check.lift("N2I0A01A01").reached(), 3);
        Check.due("change of places", Check.lift("N3TS1").reached(), 2);
        LiftExchange lift = Check.lift("N6I1A12A23A34S4T");
        Check.due("a chain", lift.reached(), 51);
        lift.halt(1, 1, 2);
        lift.back();
        Check.due("a chain, behind back()", lift.reached(), 51);
        // THE HOIST's place is no part of a STATE
        LiftExchange change = Check.lift("N3TS1");
        change.halt(1, 16, 32);
        change.halt(1, 32, 16);
        Check.due("behind two HALTS", change.reached(), 2);
    }

    private static void fewest() {
        LiftExchange lift = Check.lift("N3TTA02A20");
        Check.due("fewest(0)", lift.fewest(0), 0);
        Check.due("fewest(1)", lift.fewest(1), 2);
        Check.due("fewest(2)", lift.fewest(2), 2);
        Check.due("fewest(3)", lift.fewest(3), 3);
        lift.halt(0, 16, 1);
        Check.due("fewest(3) then", lift.fewest(3), 2);
        lift.halt(2, 1, 2);
        Check.due("fewest(1), DONE", lift.fewest(1), 0);
        Check.due("fewest(3) then", lift.fewest(3), 1);
        lift.back();
        Check.due("fewest(3) behind back()", lift.fewest(3), 2);
        LiftExchange one = Check.lift("N2I0A01");
        Check.due("fewest(1)", one.fewest(1), 1);
        Check.due("fewest(2)", one.fewest(2), LiftExchange.NONE);
        Check.due("fewest(3)", one.fewest(3), LiftExchange.NONE);
        // each of the two can get OUT, but not both: one stands there to change with
        LiftExchange either = Check.lift("N2I0I0A01");
        Check.due("fewest(1)", either.fewest(1), 1);
        Check.due("fewest(2)", either.fewest(2), 1);
        Check.due("fewest(3)", either.fewest(3), LiftExchange.NONE);
        Check.due("never()", either.never(), 4);
    }

    private static void fewestThatAreBad() {
        LiftExchange lift = Check.lift("N3I0A12TT");
        int[] bad = {4, 5, 7, 8, 15, 16, 32, 64, -1, Integer.MIN_VALUE, Integer.MAX_VALUE};
        for (int riders : bad) {
            Check.due("fewest(" + riders + ")", lift.fewest(riders), LiftExchange.BAD);
            Check.due("plan(" + riders + ", 0, 0)", lift.plan(riders, 0, 0), LiftExchange.BAD);
            Check.due("plan(" + riders + ", -1, 0): BAD first", lift.plan(riders, -1, 0), LiftExchange.BAD);
        }
        Check.due("fewest(1) of nobody", Check.lift("N2").fewest(1), LiftExchange.BAD);
        Check.due("fewest(15) of four", Check.lift("N2I0I0I0I0").fewest(15), LiftExchange.NONE);
    }

    private static void duePlan(String house, int riders, int[][] want) {
        LiftExchange lift = Check.lift(house);
        Check.due("fewest(" + riders + ") of " + house, lift.fewest(riders), want.length);
        for (int i = 0; i < want.length; i++) {
            for (int what = 0; what < 3; what++) {
                String call = "plan(" + riders + ", " + i + ", " + what + ") of " + house;
                Check.due(call, lift.plan(riders, i, what), want[i][what]);
            }
        }
        Check.due("plan behind its end", lift.plan(riders, want.length, 0), LiftExchange.NONE);
        Check.due("plan ahead of its start", lift.plan(riders, -1, 0), LiftExchange.NONE);
        Check.due("plan far behind", lift.plan(riders, Integer.MAX_VALUE, 1), LiftExchange.NONE);
        Check.due("plan far ahead", lift.plan(riders, Integer.MIN_VALUE, 2), LiftExchange.NONE);
    }

    private static void plan() {
        // the less IN, the less OUT, the less FLOOR
        duePlan("N2I0A01A01", 1, new int[][] {{0, 1, 2}});
        duePlan("N3TTA02A20", 1, new int[][] {{0, 16, 1}, {2, 1, 2}});
        duePlan("N3TTA02A20", 3, new int[][] {{0, 16, 1}, {2, 1, 2}, {0, 2, 16}});
        duePlan("N6I1A12A23A34S4T", 15, new int[][] {{1, 1, 2}, {2, 2, 4}, {3, 4, 8}, {4, 8, 16}});
        // both OUT in one HALT needs two who stand there
        duePlan("N2I0I0A01A01", 3, new int[][] {{0, 3, 12}});
        duePlan("N3I1I2A12A21", 3, new int[][] {{1, 1, 4}, {2, 2, 8}});
        duePlan("N2I0A01", 0, new int[][] {});
        LiftExchange none = Check.lift("N2I0A01");
        int[] places = {0, 1, -1, 24, Integer.MIN_VALUE, Integer.MAX_VALUE};
        for (int i : places) {
            for (int what = 0; what < 3; what++) {
                String call = "plan(2, " + i + ", " + what + ") where it can not be";
                Check.due(call, none.plan(2, i, what), LiftExchange.NONE);
            }
        }
    }

    private static void planThatIsBad() {
        LiftExchange lift = Check.lift("N2I0A01");
        int[] bad = {-1, 3, Integer.MIN_VALUE, Integer.MAX_VALUE};
        for (int what : bad) {
            Check.due("plan(1, 0, " + what + ")", lift.plan(1, 0, what), LiftExchange.BAD);
            Check.due("plan(2, 0, " + what + "): BAD ahead of NONE", lift.plan(2, 0, what), LiftExchange.BAD);
            Check.due("plan(1, 9, " + what + "): BAD ahead of NONE", lift.plan(1, 9, what), LiftExchange.BAD);
        }
    }

    private static void never() {
        Check.due("nobody", Check.lift("N2").never(), 0);
        Check.due("nobody stands", Check.lift("N3I0I1I2I2TT").never(), 15);
        Check.due("nobody INSIDE", Check.lift("N3A01A12").never(), 3);
        Check.due("all can be", Check.lift("N6I1A12A23A34S4T").never(), 0);
        LiftExchange lift = Check.lift("N4I2A23A30S1T");
        Check.due("one never", lift.never(), 4);
        LiftExchange two = Check.lift("N2I0A01");
        Check.due("never()", two.never(), 2);
        two.halt(0, 1, 2);
        Check.due("never(), the other is DONE", two.never(), 2);
        // what can be at first may be too late then: 0 changes with the one who stands at 0
        LiftExchange late = Check.lift("N3I0I0A02S2");
        Check.due("never()", late.never(), 0);
        late.halt(0, 1, 4);
        Check.due("never() then", late.never(), 2);
    }

    private static void hire() {
        Check.due("nobody", Check.lift("N2").hire(), 0);
        Check.due("none are needed", Check.lift("N6I1A12A23A34S4T").hire(), 0);
        Check.due("nobody INSIDE", Check.lift("N2A01").hire(), LiftExchange.NONE);
        Check.due("one at 1", Check.lift("N2I0A01").hire(), 11);
        Check.due("one at 0", Check.lift("N2I0").hire(), 10);
        Check.due("one at 5", Check.lift("N6I5").hire(), 15);
        Check.due("one more at 1", Check.lift("N2I0A01T").hire(), 11);
        Check.due("one more at 2", Check.lift("N3I1I2S1").hire(), 12);
        Check.due("no room", Check.lift("N2I0A01TT").hire(), LiftExchange.NONE);
        Check.due("room for one, two are needed", Check.lift("N4I1I2T").hire(), LiftExchange.NONE);
        Check.due("two at one floor", Check.lift("N3I2A01A12").hire(), 122);
        Check.due("two at two floors, the less first", Check.lift("N3I1I2").hire(), 112);
        Check.due("two at 0 and 5", Check.lift("N6I5I0").hire(), 105);
        Check.due("two at 5", Check.lift("N6I5I5").hire(), 155);
        Check.due("two at 0", Check.lift("N6I0I0").hire(), 100);
        Check.due("three would be needed", Check.lift("N3I0I1I2").hire(), LiftExchange.NONE);
        LiftExchange lift = Check.lift("N2I0A01");
        lift.halt(0, 1, 2);
        Check.due("hire() behind a HALT", lift.hire(), 11);
    }

    private static void walks() {
        Check.due("nobody", Check.lift("N2").walks(), LiftExchange.NONE);
        Check.due("nobody stands", Check.lift("N2I0").walks(), LiftExchange.NONE);
        Check.due("all would be DONE without one", Check.lift("N2A01").walks(), 1);
        Check.due("down, where it could not be", Check.lift("N3I2A10S2").walks(), 10);
        Check.due("up, where it could not be", Check.lift("N3I0A12S0").walks(), 11);
        Check.due("up, where it could be", Check.lift("N3TA01S1").walks(), 1);
        Check.due("down, where it could be", Check.lift("N2TA10S0").walks(), 0);
        Check.due("like ones: the least RIDER", Check.lift("N3TA12A12S2").walks(), 1);
        // from 5 HALTS to 4, whether 1 goes from 2 down to 1 or up to 3
        Check.due("like ones: down ahead of up", Check.lift("N4A31A20A13TS0").walks(), 10);
        Check.due("fewest(7) of that", Check.lift("N4A31A20A13TS0").fewest(7), 5);
        Check.due("fewest(7) if it goes down", Check.lift("N4A31A10A13TS0").fewest(7), 4);
        Check.due("fewest(7) if it goes up", Check.lift("N4A31A30A13TS0").fewest(7), 4);
        Check.due("as few as without it", Check.lift("N4A13A30S0T").walks(), LiftExchange.NONE);
        // whoever walks, the other one can not be brought
        Check.due("none helps", Check.lift("N2I0A01S1").walks(), LiftExchange.NONE);
        // 1 at FLOOR 0 goes up to 1, where 0 WANTS to get OUT, and is brought to 2 by the STRANGER there
        Check.due("stands there then", Check.lift("N3I1A02S2").walks(), 11);
        LiftExchange lift = Check.lift("N3TA01S1");
        lift.halt(0, 16, 1);
        Check.due("who is INSIDE walks not", lift.walks(), LiftExchange.NONE);
        lift.halt(1, 1, 32);
        Check.due("who is DONE walks not", lift.walks(), LiftExchange.NONE);
    }

    /** What it can bring is asked as if there were no end to the row of HALTS. */
    private static void asManyHaltsAsOneLikes() {
        LiftExchange lift = Check.lift("N3TS1A12A21");
        int reached = lift.reached();
        int fewest = lift.fewest(3);
        for (int i = 0; i < 24; i++) {
            lift.halt(1, i % 2 == 0 ? 16 : 32, i % 2 == 0 ? 32 : 16);
        }
        Check.due("about(6)", lift.about(6), 24);
        Check.due("reached()", lift.reached(), reached);
        Check.due("fewest(3)", lift.fewest(3), fewest);
        Check.due("fewest(3)", fewest, 3);
        Check.due("never()", lift.never(), 0);
    }

    /** Asks one question, then another one, so that what the next change finds is an object that was asked already. */
    private static String asked(LiftExchange lift, int question) {
        String told = answer(lift, question);
        lift.reached();
        return told;
    }

    private static String answer(LiftExchange lift, int question) {
        switch (question) {
            case 0: return "reached " + lift.reached();
            case 1: return "fewest " + lift.fewest(1) + "," + lift.fewest(3);
            case 2: return "plan " + lift.plan(1, 0, 0) + "," + lift.plan(1, 0, 2) + "," + lift.plan(3, 1, 1);
            case 3: return "never " + lift.never();
            case 4: return "hire " + lift.hire();
            case 5: return "walks " + lift.walks();
            case 6: return "ways " + lift.ways();
            case 7: return "byThen " + lift.byThen(0) + "," + lift.byThen(4);
            default: return "";
        }
    }

    /** Whichever question comes first behind a change is answered of how all is then; and the same once more. */
    private static void askedFirst() {
        String house = "N3TA02A21S2A10";
        for (int question = 0; question < 8; question++) {
            String start = asked(Check.lift(house), question);
            LiftExchange lift = new LiftExchange();
            asked(lift, question);
            Check.rebuild(lift, house);
            Check.same("behind house()", asked(lift, question), start);
            lift.keep(0);
            lift.halt(0, 16, 1);
            String then = asked(lift, question);
            lift.back();
            Check.same("behind back()", asked(lift, question), start);
            lift.call(0);
            Check.same("behind call(0)", asked(lift, question), then);
            lift.again(0);
            Check.same("behind again(0)", asked(lift, question), start);
            LiftExchange called = Check.lift(house);
            called.call(0);
            Check.same("of a new object behind call(0)", then, asked(called, question));
            lift.see(0, 1);
            lift.see(2, 1);
            LiftExchange seen = Check.lift(house);
            seen.see(0, 1);
            seen.see(2, 1);
            Check.same("behind see(..)", asked(lift, question), asked(seen, question));
        }
    }

    private static void nothingIsChanged() {
        LiftExchange lift = Check.lift("N3I2A01A12");
        lift.see(1, 1);
        lift.keep(0);
        String before = Check.look(lift);
        lift.hire();
        Check.same("behind hire()", Check.look(lift), before);
        lift.walks();
        Check.same("behind walks()", Check.look(lift), before);
        lift.plan(7, 0, 0);
        lift.never();
        Check.same("behind plan(..), never()", Check.look(lift), before);
        LiftExchange walk = Check.lift("N3I1A02S2");
        int fewest = walk.fewest(3);
        walk.walks();
        walk.hire();
        Check.due("fewest(3) behind walks(), hire()", walk.fewest(3), fewest);
        Check.due("where(1) behind walks()", walk.where(1), 0);
        Check.due("about(2) behind hire()", walk.about(2), 1);
    }
}
