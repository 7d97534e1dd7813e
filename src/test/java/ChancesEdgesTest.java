/** The edges of promises 25 and 26 (likely, even), each sentence by a test of its own. */
final class ChancesEdgesTest {
    /** At FLOOR 0 may get OUT 0, 1 and 4, IN 2, 3 and 5. */
    private static final String THREE_AND_THREE = "N2TI0I0A01A01S0";

    public static void main(String[] args) {
        tenAtFirst();
        tenWhenTheHouseIsMadeAnew();
        noneWhereTheHouseIsNotMadeAnew();
        fromNoneToTen();
        tenthsThatAreBad();
        thereIsNoSuchOne();
        unknownAheadOfBad();
        nobodyThere();
        oneOrMore();
        allThere();
        inLeastTerms();
        fromLeastToMostTenths();
        eachByItsOwnTenths();
        otherFloorsAreNoMatter();
        floorsThereAre();
        Check.end();
    }

    private static void dueEven(LiftExchange lift, int floor, long above, long below) {
        Check.due("even(" + floor + ", true)", lift.even(floor, true), above);
        Check.due("even(" + floor + ", false)", lift.even(floor, false), below);
    }

    private static LiftExchange threeAndThree(int tenths) {
        LiftExchange lift = Check.lift(THREE_AND_THREE);
        for (int who = 0; who < 6; who++) {
            Check.due("likely(" + who + ", " + tenths + ")", lift.likely(who, tenths), 10);
        }
        return lift;
    }

    /** "each is there by tenths (.. 10 at first ..)". */
    private static void tenAtFirst() {
        LiftExchange lift = Check.lift(THREE_AND_THREE);
        for (int who = 0; who < 6; who++) {
            Check.due("likely(" + who + ", 0)", lift.likely(who, 0), 10);
        }
    }

    /** "10 .. when THE HOUSE is made anew", those included that were not in the one before. */
    private static void tenWhenTheHouseIsMadeAnew() {
        LiftExchange lift = threeAndThree(3);
        lift.house();
        for (int who = 0; who < 6; who++) {
            Check.due("likely(" + who + ", 4) behind house()", lift.likely(who, 4), 10);
        }
        Check.rebuild(lift, "N2");
        Check.rebuild(lift, THREE_AND_THREE);
        for (int who = 0; who < 6; who++) {
            Check.due("likely(" + who + ", 4) behind two", lift.likely(who, 4), 10);
        }
    }

    /** By a HALT, by its being taken back, by `again`, by house() that is LATE it is not made anew. */
    private static void noneWhereTheHouseIsNotMadeAnew() {
        LiftExchange lift = threeAndThree(3);
        lift.keep(0);
        lift.halt(0, 1, 4);
        lift.back();
        lift.call(1);
        lift.see(0, 1);
        lift.unsee();
        lift.wipe();
        Check.due("house() of nothing", lift.house(), LiftExchange.LATE);
        lift.again(0);
        lift.hire();
        lift.walks();
        for (int who = 0; who < 6; who++) {
            Check.due("likely(" + who + ", 3) behind all that", lift.likely(who, 3), 3);
        }
    }

    /** "tenths (0 .. 10": "LIKELY: the tenths it had". */
    private static void fromNoneToTen() {
        for (int who = 0; who < 6; who++) {
            LiftExchange lift = Check.lift(THREE_AND_THREE);
            int had = 10;
            for (int tenths = 0; tenths <= 10; tenths++) {
                Check.due("likely(" + who + ", " + tenths + ")", lift.likely(who, tenths), had);
                had = tenths;
            }
            for (int other = 0; other < 6; other++) {
                Check.due("likely(" + other + ", 10), 10 as before", lift.likely(other, 10), 10);
            }
        }
    }

    /** "BAD" of tenths. */
    private static void tenthsThatAreBad() {
        for (int tenths : Check.outside(0, 10)) {
            for (int who : new int[] {0, 2, 4, 5}) {
                Check.refused(Check::busy, "likely(" + who + ", " + tenths + ")", x -> x.likely(who, tenths), LiftExchange.BAD);
            }
        }
    }

    private static int[] nobody() {
        return new int[] {3, -1, 6, 7, 32, Integer.MIN_VALUE, Integer.MAX_VALUE};
    }

    /** "UNKNOWN" (there is no such RIDER, STRANGER). */
    private static void thereIsNoSuchOne() {
        for (int who : nobody()) {
            Check.refused(Check::busy, "likely(" + who + ", 5)", x -> x.likely(who, 5), LiftExchange.UNKNOWN);
            Check.refused(LiftExchange::new, "likely(" + who + ", 0), nobody", x -> x.likely(who, 0), LiftExchange.UNKNOWN);
        }
    }

    /** "UNKNOWN; BAD": of several what is told first. */
    private static void unknownAheadOfBad() {
        for (int who : nobody()) {
            for (int tenths : Check.outside(0, 10)) {
                String call = "likely(" + who + ", " + tenths + ")";
                Check.due(call, Check.busy().likely(who, tenths), LiftExchange.UNKNOWN);
                Check.due(call + ", nobody", new LiftExchange().likely(who, tenths), LiftExchange.UNKNOWN);
            }
        }
    }

    /** Where nobody may get OUT, or IN, there is no chance: "told above (upper = true), below, in least terms". */
    private static void nobodyThere() {
        dueEven(new LiftExchange(), 0, 0, 1);
        dueEven(new LiftExchange(), 1, 0, 1);
        dueEven(Check.lift("N6"), 5, 0, 1);
        dueEven(Check.lift("N2I0I0I0I0TT"), 0, 0, 1);
        dueEven(Check.lift("N2A01A01A01A01S0S0"), 0, 0, 1);
        LiftExchange lift = Check.lift("N2I0I0TA10");
        lift.likely(0, 3);
        lift.likely(4, 7);
        dueEven(lift, 0, 0, 1);
    }

    /** "as many, one or more": that nobody is there is no chance of it. */
    private static void oneOrMore() {
        dueEven(threeAndThree(0), 0, 0, 1);
        LiftExchange lift = Check.lift("N2I0A01");
        lift.likely(0, 5);
        lift.likely(1, 5);
        dueEven(lift, 0, 1, 4);
        lift.likely(0, 0);
        dueEven(lift, 0, 0, 1);
        lift.likely(0, 5);
        lift.likely(1, 0);
        dueEven(lift, 0, 0, 1);
    }

    /** At 10 tenths each it is sure where as many may get OUT as IN, and can not be where not. */
    private static void allThere() {
        dueEven(Check.lift("N2I0A01"), 0, 1, 1);
        dueEven(Check.lift("N2I0TA01A01"), 0, 1, 1);
        dueEven(Check.lift(THREE_AND_THREE), 0, 1, 1);
        dueEven(Check.lift("N2I0TA01"), 0, 0, 1);
        dueEven(Check.lift("N2I0A01A01"), 0, 0, 1);
        dueEven(Check.lift("N2I0I0I0I0TS0"), 0, 0, 1);
    }

    /** "a FRACTION, told above (upper = true), below, in least terms". */
    private static void inLeastTerms() {
        LiftExchange lift = Check.lift("N2I0A01");
        // of 10 times 10: the chance of both
        long[][] want = {{0, 1}, {1, 10}, {1, 5}, {3, 10}, {2, 5}, {1, 2}, {3, 5}, {7, 10}, {4, 5}, {9, 10}, {1, 1}};
        for (int tenths = 0; tenths <= 10; tenths++) {
            lift.likely(0, tenths);
            dueEven(lift, 0, want[tenths][0], want[tenths][1]);
        }
        lift.likely(0, 4);
        lift.likely(1, 5);
        dueEven(lift, 0, 1, 5);
        lift.likely(0, 8);
        lift.likely(1, 8);
        dueEven(lift, 0, 16, 25);
        lift.likely(0, 7);
        lift.likely(1, 9);
        dueEven(lift, 0, 63, 100);
    }

    /** Of three and three: the squares of the chances that one, two or three of three are there. */
    private static void fromLeastToMostTenths() {
        dueEven(threeAndThree(0), 0, 0, 1);
        dueEven(threeAndThree(1), 0, 59779, 1000000);
        dueEven(threeAndThree(5), 0, 19, 64);
        dueEven(threeAndThree(9), 0, 591219, 1000000);
        dueEven(threeAndThree(10), 0, 1, 1);
        // one that may get OUT and five that may get IN, and the other way round: 0.1 times 5 times 0.1 times 0.9 by four
        dueEven(allAt(1, "N2TA01A01A01A01S0"), 0, 6561, 200000);
        dueEven(allAt(1, "N2I0I0I0I0TS0"), 0, 6561, 200000);
    }

    private static LiftExchange allAt(int tenths, String house) {
        LiftExchange lift = Check.lift(house);
        for (int who = 0; who < 6; who++) {
            lift.likely(who, tenths);
        }
        return lift;
    }

    /** "each is there by tenths": one may get OUT by 3, two IN by 10 and by 5, nobody else is there. */
    private static void eachByItsOwnTenths() {
        for (int one = 0; one < 6; one++) {
            for (int other = 0; other < 6; other++) {
                for (int third = 0; third < 6; third++) {
                    if (one != other && other != third && third != one) {
                        LiftExchange lift = allAt(0, onlyInside(one));
                        lift.likely(one, 3);
                        lift.likely(other, 10);
                        lift.likely(third, 5);
                        dueEven(lift, 0, 3, 20);
                    }
                }
            }
        }
    }

    /** All six at FLOOR 0, where one may get OUT and the others IN. */
    private static String onlyInside(int one) {
        StringBuilder house = new StringBuilder("N2");
        for (int who = 0; who < 6; who++) {
            String rider = who == one ? "I0" : "A01";
            String stranger = who == one ? "T" : "S0";
            house.append(who < 4 ? rider : stranger);
        }
        return house.toString();
    }

    /** "of those there that may get OUT and of those there that may get IN": who may neither is no matter. */
    private static void otherFloorsAreNoMatter() {
        LiftExchange lift = allAt(0, "N3I0A01I1A12S2");
        lift.likely(0, 10);
        lift.likely(1, 10);
        dueEven(lift, 0, 1, 1);
        dueEven(lift, 1, 0, 1);
        lift.likely(1, 5);
        dueEven(lift, 0, 1, 2);
        // INSIDE, it may get IN no more; DONE, it may not get OUT
        lift.halt(0, 1, 2);
        dueEven(lift, 0, 0, 1);
        lift.likely(3, 10);
        dueEven(lift, 1, 1, 2);
    }

    /** "UNKNOWN", above and below. */
    private static void floorsThereAre() {
        for (int floor : Check.outside(0, 3)) {
            Check.refused(Check::busy, "even(" + floor + ", true)", x -> x.even(floor, true), LiftExchange.UNKNOWN);
            Check.refused(Check::busy, "even(" + floor + ", false)", x -> x.even(floor, false), LiftExchange.UNKNOWN);
        }
        for (int floor : Check.outside(0, 1)) {
            dueEven(new LiftExchange(), floor, LiftExchange.UNKNOWN, LiftExchange.UNKNOWN);
        }
    }
}
