/** The edges of promises 9 to 13 (may, choices, halt, back, made), each sentence by a test of its own. */
final class HaltsEdgesTest {
    /** RIDERS 0 and 1 are INSIDE, 0 WANTS 1; 2 stands at 1, 3 at 0; STRANGER 4 is INSIDE, 5 stands at 1. */
    private static final String HOUSE = "N3I1I2A12A01TS1";

    public static void main(String[] args) {
        floorsThereAre();
        mayNobodyAndAll();
        choicesFromNoneToTheMost();
        choicesWhereNoHaltIsLeft();
        fromOneToThree();
        nobody();
        notAsMany();
        oneMayNotGetOut();
        oneMayNotGetIn();
        oneThatIsNotThere();
        bothOutAndIn();
        doneGetInNoMore();
        unknownAheadOfBad();
        badAheadOfFull();
        twentyFourHalts();
        flightsFromNoneToFive();
        backOfNothing();
        backOfAll();
        backOfEachKind();
        backToEachHaltBefore();
        madeOfNothing();
        madeOfAll();
        madeThatIsBad();
        Check.end();
    }

    /** "UNKNOWN (there is no such FLOOR)", in each HOUSE by all calls that ask for one. */
    private static void floorsThereAre() {
        for (int floors = 2; floors <= 6; floors++) {
            int last = floors - 1;
            LiftExchange lift = Check.lift("N" + floors + "I" + last + "A" + last + "0");
            for (int floor = 0; floor < 6; floor++) {
                boolean there = floor < floors;
                dueAt(lift, floor, there ? floor == last ? 1 : 0 : LiftExchange.UNKNOWN);
                int saw = there ? floor + 1 : LiftExchange.UNKNOWN;
                Check.due("see(" + floor + ", 1) of " + floors, lift.see(floor, 1), saw);
                Check.due("even(" + floor + ", false) of " + floors, lift.even(floor, false), there ? 1 : -1);
            }
            for (int floor : Check.outside(0, last)) {
                dueAt(lift, floor, LiftExchange.UNKNOWN);
                Check.due("may(" + floor + ", false)", lift.may(floor, false), LiftExchange.UNKNOWN);
                Check.due("halt(" + floor + ", 1, 2)", lift.halt(floor, 1, 2), LiftExchange.UNKNOWN);
                Check.due("see(" + floor + ", 1)", lift.see(floor, 1), LiftExchange.UNKNOWN);
                Check.due("even(" + floor + ", false)", lift.even(floor, false), LiftExchange.UNKNOWN);
            }
            Check.due("halt(" + last + ", 1, 2) of " + floors, lift.halt(last, 1, 2), 1);
        }
        for (int floor : Check.outside(0, 3)) {
            String of = "(" + floor + ", ..)";
            Check.refused(Check::busy, "may" + of, x -> x.may(floor, true), LiftExchange.UNKNOWN);
            Check.refused(Check::busy, "choices" + of, x -> x.choices(floor), LiftExchange.UNKNOWN);
            Check.refused(Check::busy, "halt" + of, x -> x.halt(floor, 32, 16), LiftExchange.UNKNOWN);
            Check.refused(LiftExchange::new, "halt" + of, x -> x.halt(floor, 0, 0), LiftExchange.UNKNOWN);
        }
    }

    /** At such a FLOOR one who may get OUT, one HALT, a chance of one; or none of that; or the FLOOR there is not. */
    private static void dueAt(LiftExchange lift, int floor, int want) {
        Check.due("may(" + floor + ", true)", lift.may(floor, true), want);
        Check.due("choices(" + floor + ")", lift.choices(floor), want);
        Check.due("even(" + floor + ", true)", lift.even(floor, true), want);
    }

    /** "Who may get OUT (out = true), IN, as bits", from nobody to four RIDERS and two STRANGERS. */
    private static void mayNobodyAndAll() {
        LiftExchange none = new LiftExchange();
        LiftExchange inside = Check.lift("N2I0I0I0I0TT");
        LiftExchange stand = Check.lift("N2A01A01A01A01S0S0");
        Check.due("may(0, true) of nobody", none.may(0, true), 0);
        Check.due("may(0, false) of nobody", none.may(0, false), 0);
        Check.due("may(0, true), all INSIDE", inside.may(0, true), 63);
        Check.due("may(1, true), all INSIDE", inside.may(1, true), 48);
        Check.due("may(0, false), all INSIDE", inside.may(0, false), 0);
        Check.due("may(0, false), all stand", stand.may(0, false), 63);
        Check.due("may(1, false), all stand", stand.may(1, false), 0);
        Check.due("may(0, true), all stand", stand.may(0, true), 0);
        for (int who = 0; who < 4; who++) {
            StringBuilder house = new StringBuilder("N3");
            for (int rider = 0; rider < 4; rider++) {
                house.append(rider == who ? "I1" : "A20");
            }
            LiftExchange lift = Check.lift(house.toString());
            Check.due("may(1, true) of " + house, lift.may(1, true), 1 << who);
            Check.due("may(2, false) of " + house, lift.may(2, false), 15 - (1 << who));
        }
    }

    /** "How many HALTS can be made at a FLOOR": as many OUT as IN, one or more. */
    private static void choicesFromNoneToTheMost() {
        String[] out = {"", "I0", "I0T", "I0TT", "I0I0TT"};
        String[] in = {"", "A01", "A01A01"};
        // so many pairs of sets of like size, of so many (row) and so many (column)
        int[][] want = {{0, 0, 0}, {0, 1, 2}, {0, 2, 5}, {0, 3, 9}, {0, 4, 14}};
        for (int i = 0; i < out.length; i++) {
            for (int k = 0; k < in.length; k++) {
                String house = "N2" + out[i] + in[k];
                Check.due("choices(0) of " + house, Check.lift(house).choices(0), want[i][k]);
                Check.due("choices(1) of " + house, Check.lift(house).choices(1), 0);
            }
        }
        Check.due("choices(0), three and three", Check.lift("N2I0I0TA01A01S0").choices(0), 19);
        Check.due("choices(0), one and five", Check.lift("N2TA01A01A01A01S0").choices(0), 5);
        Check.due("choices(0), five and one", Check.lift("N2I0I0I0I0TS0").choices(0), 5);
        Check.due("choices(0) of a new object", new LiftExchange().choices(0), 0);
    }

    /** It tells what can be made as HALTS are told: the row's end is no part of a HALT. */
    private static void choicesWhereNoHaltIsLeft() {
        Check.due("choices(1) behind 24 HALTS", Check.changed(24).choices(1), 1);
        LiftExchange lift = Check.lift("N2I0A01");
        lift.halt(0, 1, 2);
        Check.due("choices(0) behind the last HALT", lift.choices(0), 0);
        Check.due("choices(1) behind the last HALT", lift.choices(1), 0);
    }

    /** "A HALT: how many got OUT." */
    private static void fromOneToThree() {
        String house = "N2I0I0TA01A01S0";
        int[] out = {0, 1, 3, 19};
        int[] in = {0, 4, 12, 44};
        for (int many = 1; many <= 3; many++) {
            LiftExchange lift = Check.lift(house);
            Check.due("halt(0, " + out[many] + ", " + in[many] + ")", lift.halt(0, out[many], in[many]), many);
            Check.due("about(3)", lift.about(3), 3);
            Check.due("may(0, false)", lift.may(0, false), 44 - in[many] + (many == 3 ? 16 : 0));
        }
    }

    private static void bad(String why, int out, int in) {
        String call = "halt(1, " + out + ", " + in + "), " + why;
        Check.refused(() -> Check.lift(HOUSE), call, x -> x.halt(1, out, in), LiftExchange.BAD);
    }

    /** "one or more": "BAD: .. nobody". */
    private static void nobody() {
        bad("nobody", 0, 0);
        Check.refused(Check::busy, "halt(0, 0, 0)", x -> x.halt(0, 0, 0), LiftExchange.BAD);
        Check.refused(LiftExchange::new, "halt(0, 0, 0) of a new object", x -> x.halt(0, 0, 0), LiftExchange.BAD);
    }

    /** "as many get IN": "BAD: .. not as many". */
    private static void notAsMany() {
        bad("one and nobody", 1, 0);
        bad("nobody and one", 0, 4);
        bad("two and one", 17, 4);
        bad("one and two", 1, 36);
        bad("two and nobody", 17, 0);
        bad("nobody and two", 0, 36);
        Check.due("halt(1, 17, 36), two and two", Check.lift(HOUSE).halt(1, 17, 36), 2);
    }

    /** "OUT .. may get RIDERS that are INSIDE and WANT it, and STRANGERS that are INSIDE": "BAD: one of them may not". */
    private static void oneMayNotGetOut() {
        bad("OUT a RIDER that WANTS another FLOOR", 2, 4);
        bad("OUT a RIDER that stands there", 4, 32);
        bad("OUT a RIDER that stands at another FLOOR", 8, 4);
        bad("OUT a STRANGER that stands there", 32, 4);
        bad("OUT one that may and one that may not", 3, 36);
        bad("OUT one that may and one that stands there", 1 + 32, 36);
    }

    /** "IN may get RIDERS and STRANGERS that stand there": "BAD: one of them may not". */
    private static void oneMayNotGetIn() {
        bad("IN a RIDER that stands at another FLOOR", 1, 8);
        bad("IN a RIDER that is INSIDE", 1, 2);
        bad("IN a STRANGER that is INSIDE", 1, 16);
        bad("IN one that may and one that may not", 17, 4 + 8);
        Check.due("halt(0, 16, 8)", Check.lift(HOUSE).halt(0, 16, 8), 1);
        Check.refused(() -> Check.lift("N3TS1"), "halt(2, 16, 32)", x -> x.halt(2, 16, 32), LiftExchange.BAD);
    }

    /** RIDERS 2 and 3 and STRANGER 5 there are not, nor is any bit above. */
    private static void oneThatIsNotThere() {
        int[] more = {4, 8, 32, 64, 128, 1 << 12, 1 << 16, 1 << 30, Integer.MIN_VALUE};
        for (int bit : more) {
            String of = " and " + bit + " of two RIDERS and a STRANGER";
            Check.refused(() -> Check.lift("N2I1A10T"), "halt(1, 1, 2)" + of + " OUT", x -> x.halt(1, bit, 2), LiftExchange.BAD);
            Check.refused(() -> Check.lift("N2I1A10T"), "halt(1, 1, 2)" + of + " IN", x -> x.halt(1, 1, bit), LiftExchange.BAD);
            Check.refused(() -> Check.lift("N2I1A10TA10"), "halt(1, 17, 6)" + of, x -> x.halt(1, 17 | bit, 6 | bit),
                LiftExchange.BAD);
        }
        for (int bits : new int[] {-1, Integer.MIN_VALUE, Integer.MAX_VALUE, 63, 64}) {
            bad("all bits alike", bits, bits);
        }
    }

    /** One that gets OUT is INSIDE, one that gets IN stands there: nobody is both. */
    private static void bothOutAndIn() {
        bad("the same RIDER", 1, 1);
        bad("the same STRANGER", 16, 16);
        bad("the same two", 17, 17);
        bad("one the same", 17, 20);
        bad("one that stands, both", 4, 4);
    }

    /** "RIDERS that got OUT are DONE (they get IN no more); STRANGERS that got OUT stand there." */
    private static void doneGetInNoMore() {
        LiftExchange lift = Check.lift(HOUSE);
        Check.due("halt(1, 17, 36)", lift.halt(1, 17, 36), 2);
        Check.due("may(1, false): 4 stands there, 0 is DONE", lift.may(1, false), 16);
        Check.due("may(1, true): 5 alone", lift.may(1, true), 32);
        Check.due("halt(1, 32, 1): IN, DONE", lift.halt(1, 32, 1), LiftExchange.BAD);
        Check.due("halt(1, 1, 16): OUT, DONE", lift.halt(1, 1, 16), LiftExchange.BAD);
        Check.due("halt(1, 32, 16)", lift.halt(1, 32, 16), 1);
        Check.due("where(0)", lift.where(0), 200);
        Check.due("halt(2, 2, 1): IN, DONE at another FLOOR", lift.halt(2, 2, 1), LiftExchange.BAD);
    }

    /** "UNKNOWN: floor; BAD: ..": of several what is told first. */
    private static void unknownAheadOfBad() {
        for (int floor : Check.outside(0, 2)) {
            String call = "halt(" + floor + ", ..) that is BAD, too";
            Check.refused(() -> Check.lift(HOUSE), call, x -> x.halt(floor, 0, 0), LiftExchange.UNKNOWN);
            Check.refused(() -> Check.lift(HOUSE), call, x -> x.halt(floor, -1, 4), LiftExchange.UNKNOWN);
            Check.refused(() -> Check.changed(24), call + " of 24", x -> x.halt(floor, 16, 16), LiftExchange.UNKNOWN);
            Check.refused(() -> Check.changed(24), "halt(" + floor + ", ..) of 24", x -> x.halt(floor, 16, 32),
                LiftExchange.UNKNOWN);
        }
    }

    /** "BAD: ..; FULL: 24": of several what is told first. */
    private static void badAheadOfFull() {
        Check.refused(() -> Check.changed(24), "halt(1, 0, 0) of 24", x -> x.halt(1, 0, 0), LiftExchange.BAD);
        Check.refused(() -> Check.changed(24), "halt(1, 32, 16) of 24", x -> x.halt(1, 32, 16), LiftExchange.BAD);
        Check.refused(() -> Check.changed(24), "halt(1, 16, 48) of 24", x -> x.halt(1, 16, 48), LiftExchange.BAD);
        Check.refused(() -> Check.changed(24), "halt(0, 16, 32) of 24", x -> x.halt(0, 16, 32), LiftExchange.BAD);
    }

    /** "HALTS that were made are a row (24 at most)": "FULL: 24". */
    private static void twentyFourHalts() {
        LiftExchange lift = Check.changed(23);
        Check.due("about(6)", lift.about(6), 23);
        Check.due("halt(1, 32, 16), the 24th", lift.halt(1, 32, 16), 1);
        Check.due("about(6)", lift.about(6), 24);
        Check.refused(() -> Check.changed(24), "halt(1, 16, 32), the 25th", x -> x.halt(1, 16, 32), LiftExchange.FULL);
        Check.due("halt(1, 16, 32), the 25th", lift.halt(1, 16, 32), LiftExchange.FULL);
        Check.due("halt(1, 16, 32), once more", lift.halt(1, 16, 32), LiftExchange.FULL);
        Check.due("back()", lift.back(), 23);
        Check.due("halt(1, 32, 16), the 24th again", lift.halt(1, 32, 16), 1);
        Check.due("halt(1, 16, 32), the 25th again", lift.halt(1, 16, 32), LiftExchange.FULL);
    }

    /** "THE HOIST goes there first: as many FLIGHTS as FLOORS are between", up and down, none to where it is. */
    private static void flightsFromNoneToFive() {
        LiftExchange lift = Check.lift("N6TS0A05A10A50A50");
        dueFlights(lift, 0, 16, 32, 0);
        dueFlights(lift, 0, 32, 1, 0);
        dueFlights(lift, 5, 1, 4, 5);
        dueFlights(lift, 0, 4, 16, 10);
        dueFlights(lift, 1, 16, 2, 11);
        dueFlights(lift, 0, 2, 32, 12);
        dueFlights(lift, 5, 32, 8, 17);
        Check.due("back()", lift.back(), 6);
        Check.due("about(7) behind back()", lift.about(7), 12);
    }

    private static void dueFlights(LiftExchange lift, int floor, int out, int in, int flights) {
        Check.due("halt(" + floor + ", " + out + ", " + in + ")", lift.halt(floor, out, in), 1);
        Check.due("about(5)", lift.about(5), floor);
        Check.due("about(7)", lift.about(7), flights);
    }

    /** "LATE: there is none." */
    private static void backOfNothing() {
        Check.refused(LiftExchange::new, "back() of a new object", LiftExchange::back, LiftExchange.LATE);
        Check.refused(() -> Check.lift(HOUSE), "back() ahead of a HALT", LiftExchange::back, LiftExchange.LATE);
        Check.refused(() -> backed(Check.busy(), 2), "back() behind the last", LiftExchange::back, LiftExchange.LATE);
    }

    private static LiftExchange backed(LiftExchange lift, int times) {
        for (int i = 0; i < times; i++) {
            lift.back();
        }
        return lift;
    }

    /** "The last HALT is taken back: how many are left", from 23 to none. */
    private static void backOfAll() {
        LiftExchange lift = Check.changed(24);
        for (int left = 23; left >= 0; left--) {
            Check.due("back()", lift.back(), left);
            Check.due("about(6)", lift.about(6), left);
            Check.due("about(5)", lift.about(5), left == 0 ? 0 : 1);
            Check.due("about(7)", lift.about(7), left == 0 ? 0 : 1);
            Check.due("where(4)", lift.where(4), left % 2 == 0 ? 100 : 1);
            Check.due("where(5)", lift.where(5), left % 2 == 0 ? 1 : 100);
        }
        Check.due("back()", lift.back(), LiftExchange.LATE);
        Check.due("back() once more", lift.back(), LiftExchange.LATE);
        Check.due("halt(1, 16, 32) then", lift.halt(1, 16, 32), 1);
    }

    /** "The last HALT is taken back (its FLIGHTS, too)": RIDERS and STRANGERS, one to three of them. */
    private static void backOfEachKind() {
        String house = "N2I0I0TA01A01S0";
        int[][] halts = {{1, 4}, {1, 32}, {16, 4}, {16, 32}, {3, 12}, {17, 36}, {3, 36}, {18, 12}, {19, 44}};
        for (int[] halt : halts) {
            LiftExchange lift = Check.lift(house);
            String before = Check.look(lift);
            Check.due("halt(0, " + halt[0] + ", " + halt[1] + ")", lift.halt(0, halt[0], halt[1]), Integer.bitCount(halt[0]));
            Check.due("back()", lift.back(), 0);
            Check.same("behind back() of " + halt[0] + ", " + halt[1], Check.look(lift), before);
        }
    }

    /** "The last HALT", no other one: those ahead of it stay, RIDERS that got OUT by them are DONE. */
    private static void backToEachHaltBefore() {
        int[][] halts = {{1, 1, 2}, {2, 2, 4}, {3, 4, 8}, {4, 8, 16}};
        LiftExchange lift = Check.lift("N6I1A12A23A34S4T");
        String[] before = new String[4];
        for (int i = 0; i < 4; i++) {
            before[i] = Check.look(lift);
            Check.due("halt(" + halts[i][0] + ", ..)", lift.halt(halts[i][0], halts[i][1], halts[i][2]), 1);
        }
        Check.due("about(4)", lift.about(4), 4);
        LiftExchange again = Check.lift("N6I1A12A23A34S4T");
        for (int i = 0; i < 4; i++) {
            again.halt(halts[i][0], halts[i][1], halts[i][2]);
        }
        for (int left = 3; left >= 0; left--) {
            Check.due("back()", again.back(), left);
            Check.due("about(4)", again.about(4), left);
            Check.same("behind back() to " + left, Check.look(again), before[left]);
        }
    }

    /** "NONE: there is none such." */
    private static void madeOfNothing() {
        for (int what = 0; what < 3; what++) {
            for (int i : new int[] {0, 1, -1, 23, 24, Integer.MIN_VALUE, Integer.MAX_VALUE}) {
                Check.due("made(" + i + ", ..) of a new object", new LiftExchange().made(i, what), LiftExchange.NONE);
                Check.due("made(" + i + ", ..) behind back()", backed(Check.busy(), 2).made(i, what), LiftExchange.NONE);
            }
            int asked = what;
            for (int i : Check.outside(0, 1)) {
                Check.refused(Check::busy, "made(" + i + ", " + what + ") of two", x -> x.made(i, asked), LiftExchange.NONE);
            }
        }
    }

    /** "Of the i-th HALT (from 0) its FLOOR (what = 0), who got OUT (1), IN (2)", from the first to the 24th. */
    private static void madeOfAll() {
        LiftExchange lift = Check.changed(24);
        for (int i = 0; i < 24; i++) {
            Check.same("made(" + i + ", ..)", Check.made(lift, i), i % 2 == 0 ? "1:16/32" : "1:32/16");
        }
        for (int i : Check.outside(0, 23)) {
            Check.same("made(" + i + ", ..)", Check.made(lift, i), "-9:-9/-9");
        }
        LiftExchange most = Check.lift("N2I0I0TA01A01S0");
        most.halt(0, 19, 44);
        Check.same("made(0, ..)", Check.made(most, 0), "0:19/44");
        LiftExchange all = Check.lift("N6A05I5TT");
        all.halt(0, 32, 1);
        all.halt(5, 1, 2);
        Check.same("made(0, ..) at FLOOR 0", Check.made(all, 0), "0:32/1");
        Check.same("made(1, ..), which was BAD", Check.made(all, 1), "-9:-9/-9");
    }

    /** "BAD: what", ahead of NONE. */
    private static void madeThatIsBad() {
        for (int what : Check.outside(0, 2)) {
            for (int i : new int[] {0, 1, 2, -1, Integer.MIN_VALUE, Integer.MAX_VALUE}) {
                Check.refused(Check::busy, "made(" + i + ", " + what + ")", x -> x.made(i, what), LiftExchange.BAD);
            }
            Check.due("made(0, " + what + ") of a new object", new LiftExchange().made(0, what), LiftExchange.BAD);
            Check.due("made(23, " + what + ") of 24", Check.changed(24).made(23, what), LiftExchange.BAD);
        }
    }
}
