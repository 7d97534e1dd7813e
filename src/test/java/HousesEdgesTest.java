/** The edges of promises 1 to 8 (write, wipe, fault, house, about, where, wants), each sentence by a test of its own. */
final class HousesEdgesTest {
    /** Four that stand, two STRANGERS that stand: no HOUSE has more bytes. */
    private static final String LONGEST = "N6A50A51A52A53S4S5";
    /** Where a PART of it ends. */
    private static final String ENDS = " 2 5 8 11 14 16 18 ";

    public static void main(String[] args) {
        bytesOfACall();
        bytesThatNoCallTakes();
        theLowestBytes();
        theGreatestAndTheLeastLong();
        fortyBytes();
        moreThanFortyBytes();
        badAheadOfFull();
        wipeOfNothingAndOfAll();
        wipeTakesTheTextAlone();
        faultOfTheFirstPart();
        faultOfRiders();
        faultOfStrangers();
        faultOfOneTooMany();
        faultWhateverCameBehind();
        faultOfATextThatIsNotAtItsEnd();
        housesOfAllSizes();
        nobodyElse();
        housesThatAreLate();
        houseAnew();
        houseOfFewer();
        aboutFromTheLeastToTheMost();
        aboutThatIsBad();
        whereOneIs();
        whatOneWants();
        theLastCallOfAnObject();
        Check.end();
    }

    /** "n bytes (1 .. 8) .. how long it is". */
    private static void bytesOfACall() {
        for (int n = 1; n <= 8; n++) {
            LiftExchange lift = new LiftExchange();
            Check.due("write(" + n + ", 0)", lift.write(n, 0), n);
            Check.due("write(" + n + ", 0) once more", lift.write(n, 0), 2 * n);
            Check.due("about(8)", lift.about(8), 2 * n);
        }
    }

    /** "n bytes (1 .. 8) ..: BAD". */
    private static void bytesThatNoCallTakes() {
        for (int n : Check.outside(1, 8)) {
            Check.refused(Check::busy, "write(" + n + ", '2')", x -> x.write(n, '2'), LiftExchange.BAD);
            Check.refused(LiftExchange::new, "write(" + n + ", 'N') first", x -> x.write(n, 'N'), LiftExchange.BAD);
        }
    }

    /** "of v, the lowest n, the highest of these first". */
    private static void theLowestBytes() {
        String house = "N6I5A450";
        for (int n = 1; n <= 8; n++) {
            long v = 0xDDEEDDEEDDEEDDEEL;
            for (int i = 0; i < n; i++) {
                v = v << 8 | house.charAt(i);
            }
            LiftExchange lift = new LiftExchange();
            Check.due("write(" + n + ", ..)", lift.write(n, v), n);
            Check.write(lift, house.substring(n));
            Check.due("fault() behind write(" + n + ", ..)", lift.fault(), 7);
            lift.wipe();
            lift.write(n, v);
            Check.write(lift, house.substring(n).replace("0", "T"));
            Check.due("house() behind write(" + n + ", ..)", lift.house(), n == 8 ? LiftExchange.LATE : 3);
        }
    }

    /** "of v" is any long: a byte is one of 256, whatever stands above it. */
    private static void theGreatestAndTheLeastLong() {
        LiftExchange lift = new LiftExchange();
        Check.due("write(8, MAX)", lift.write(8, Long.MAX_VALUE), 8);
        Check.due("write(8, MIN)", lift.write(8, Long.MIN_VALUE), 16);
        Check.due("write(1, MAX)", lift.write(1, Long.MAX_VALUE), 17);
        Check.due("write(1, MIN)", lift.write(1, Long.MIN_VALUE), 18);
        Check.due("wipe()", lift.wipe(), 18);
        Check.due("write(1, MIN + 'N')", lift.write(1, Long.MIN_VALUE + 'N'), 1);
        Check.due("write(1, -256 + '2')", lift.write(1, -256L + '2'), 2);
        Check.due("house()", lift.house(), 0);
        // what wraps around to an N or a 2 in seven bits or in nine is none
        for (long v : new long[] {'N' - 128, 'N' + 128, 'N' - 256 - 128, -'N'}) {
            lift.wipe();
            lift.write(1, v);
            Check.due("fault() of " + v, lift.fault(), 0);
        }
    }

    private static LiftExchange bytes(int many) {
        LiftExchange lift = new LiftExchange();
        Check.write(lift, "N3" + "T".repeat(many));
        return lift;
    }

    /** "THE TEXT is bytes (40 at most)". */
    private static void fortyBytes() {
        for (int n = 1; n <= 8; n++) {
            int bytes = n;
            LiftExchange lift = bytes(38 - n);
            Check.due("write(" + n + ", 0) up to 40", lift.write(n, 0), 40);
            Check.due("about(8)", lift.about(8), 40);
            Check.due("fault()", lift.fault(), 4);
            Check.refused(() -> bytes(38), "write(" + n + ", 0) at 40", x -> x.write(bytes, 0), LiftExchange.FULL);
        }
    }

    /** "FULL: it would be longer than 40 (nothing comes)", not even as much as there is room for. */
    private static void moreThanFortyBytes() {
        for (int n = 1; n <= 8; n++) {
            int bytes = n;
            Check.refused(() -> bytes(39 - bytes), "write(" + n + ", 0) up to 41", x -> x.write(bytes, 0), LiftExchange.FULL);
            LiftExchange lift = bytes(39 - n);
            lift.write(n, 0);
            Check.due("about(8) behind FULL", lift.about(8), 41 - n);
            Check.due("write(1, 0) behind FULL", lift.write(1, 0), n == 1 ? LiftExchange.FULL : 42 - n);
        }
    }

    /** "BAD; FULL": of several what is told first. */
    private static void badAheadOfFull() {
        for (int n : Check.outside(1, 8)) {
            Check.refused(() -> bytes(38), "write(" + n + ", 0) at 40", x -> x.write(n, 0), LiftExchange.BAD);
        }
    }

    /** "THE TEXT is empty: how long it was." */
    private static void wipeOfNothingAndOfAll() {
        LiftExchange lift = new LiftExchange();
        Check.due("wipe() of a new object", lift.wipe(), 0);
        Check.due("write(1, 0)", lift.write(1, 0), 1);
        Check.due("wipe() of one byte", lift.wipe(), 1);
        Check.due("wipe() once more", lift.wipe(), 0);
        LiftExchange full = bytes(38);
        Check.due("wipe() of 40", full.wipe(), 40);
        Check.due("about(8)", full.about(8), 0);
        Check.due("fault() of nothing", full.fault(), 0);
        Check.due("house() of nothing", full.house(), LiftExchange.LATE);
        Check.due("write(8, 0) behind wipe()", full.write(8, 0), 8);
    }

    /** "THE TEXT is empty", THE HOUSE and all else stays. */
    private static void wipeTakesTheTextAlone() {
        LiftExchange wiped = Check.busy();
        wiped.wipe();
        Check.write(wiped, "N5I4A1");
        Check.same("behind wipe()", Check.look(wiped), Check.look(Check.busy()));
        wiped.wipe();
        Check.due("about(6) behind wipe()", wiped.about(6), 2);
        Check.due("about(9) behind wipe()", wiped.about(9), 2);
        Check.due("again(0) behind wipe()", wiped.again(0), 5);
    }

    /** Behind a beginning fit some bytes and no other one of the 256: some leave more to come, some end a HOUSE. */
    private static void onlyTheseBehind(String beginning, String open, String whole) {
        int place = beginning.length();
        for (int b = 0; b < 256; b++) {
            LiftExchange lift = new LiftExchange();
            Check.write(lift, beginning + (char) b);
            int want = open.indexOf(b) >= 0 ? place + 1 : whole.indexOf(b) >= 0 ? LiftExchange.NONE : place;
            Check.due("fault() of " + beginning + " and byte " + b, lift.fault(), want);
        }
    }

    /** "FLOORS are 0 .. n - 1 (n 2 .. 6)", "Nn FLOORS; the first PART". */
    private static void faultOfTheFirstPart() {
        onlyTheseBehind("", "N", "");
        onlyTheseBehind("N", "", "23456");
        onlyTheseBehind("N2", "IAS", "T");
        onlyTheseBehind("N6", "IAS", "T");
    }

    /** "Iw a RIDER that is INSIDE and WANTS FLOOR w", "Afw a RIDER that stands at FLOOR f and WANTS FLOOR w (another one)". */
    private static void faultOfRiders() {
        for (int floors = 2; floors <= 6; floors++) {
            String house = "N" + floors;
            String all = "012345".substring(0, floors);
            onlyTheseBehind(house + "I", "", all);
            onlyTheseBehind(house + "A", all, "");
            for (int floor = 0; floor < floors; floor++) {
                onlyTheseBehind(house + "A" + floor, "", all.replace(Integer.toString(floor), ""));
            }
            onlyTheseBehind(house + "I0", "IAS", "T");
            onlyTheseBehind(house + "A01", "IAS", "T");
        }
    }

    /** "Sf a STRANGER that stands at FLOOR f", "T a STRANGER that is INSIDE". */
    private static void faultOfStrangers() {
        for (int floors = 2; floors <= 6; floors++) {
            onlyTheseBehind("N" + floors + "S", "", "012345".substring(0, floors));
            onlyTheseBehind("N" + floors + "S0", "IAS", "T");
            onlyTheseBehind("N" + floors + "T", "IAS", "T");
        }
    }

    /** "RIDERS are 0 .. 3, STRANGERS 4 and 5": the letter of one more is the fault. */
    private static void faultOfOneTooMany() {
        onlyTheseBehind("N2I0I0I0", "IAS", "T");
        onlyTheseBehind("N2A01A01A01", "IAS", "T");
        onlyTheseBehind("N2I0I0I0I0", "S", "T");
        onlyTheseBehind("N2A01A01A01A01", "S", "T");
        onlyTheseBehind("N2I0A01I0A01T", "S", "T");
        onlyTheseBehind("N2TT", "IA", "");
        onlyTheseBehind("N2S0S0", "IA", "");
        onlyTheseBehind("N2S1TI0I0I0", "IA", "");
        onlyTheseBehind("N2I0I0I0I0TT", "", "");
        onlyTheseBehind(LONGEST, "", "");
    }

    private static void dueFault(String text, int want) {
        LiftExchange lift = new LiftExchange();
        Check.write(lift, text);
        Check.due("fault() of " + text, lift.fault(), want);
    }

    /** "the place .. of the first byte by which THE TEXT can be no HOUSE, whatever came behind it (its length set aside)". */
    private static void faultWhateverCameBehind() {
        String[] beginnings = {"n", "N1", "N7", "N2N", "N2I2", "N2A2", "N2A00", "N2A02", "N2S2", "N2T0", "N2TTT", "N2I0I0I0I0I"};
        String[] tails = {"", "N2", "0", "1T", "I0", "A01", "S", " "};
        for (String beginning : beginnings) {
            for (String tail : tails) {
                dueFault(beginning + tail, beginning.length() - 1);
            }
            dueFault(beginning + "T".repeat(40 - beginning.length()), beginning.length() - 1);
            dueFault(beginning + "N2I0A01".repeat(5).substring(0, 28), beginning.length() - 1);
        }
        // the first one, though there are more
        dueFault("N3I3A11TTTX", 3);
        dueFault("N3I1A11TTTX", 6);
        dueFault("N3I1A12TTTX", 9);
        dueFault("N3I1A12TTX", 9);
    }

    /** "its length, if it is only not at its end; NONE: none". */
    private static void faultOfATextThatIsNotAtItsEnd() {
        for (int length = 0; length <= LONGEST.length(); length++) {
            boolean ends = ENDS.contains(" " + length + " ");
            dueFault(LONGEST.substring(0, length), ends ? LiftExchange.NONE : length);
        }
        LiftExchange lift = new LiftExchange();
        Check.due("fault() of a new object", lift.fault(), 0);
        lift.write(1, 'N');
        lift.house();
        Check.due("fault() behind house() that is LATE", lift.fault(), 1);
    }

    /** "how many RIDERS and STRANGERS", from nobody to four and two. */
    private static void housesOfAllSizes() {
        for (int floors = 2; floors <= 6; floors++) {
            for (int riders = 0; riders <= 4; riders++) {
                for (int strangers = 0; strangers <= 2; strangers++) {
                    String house = Check.house(floors, riders, strangers);
                    LiftExchange lift = new LiftExchange();
                    Check.due("house() of " + house, Check.rebuild(lift, house), riders + strangers);
                    Check.due("about(0) of " + house, lift.about(0), floors);
                    Check.due("about(1) of " + house, lift.about(1), riders);
                    Check.due("about(2) of " + house, lift.about(2), strangers);
                    Check.due("about(3) of " + house, lift.about(3), Math.max(0, riders - 1) + strangers);
                }
            }
        }
        Check.due("house() of the longest", Check.rebuild(new LiftExchange(), LONGEST), 6);
    }

    /** "UNKNOWN (there is no such .. RIDER, STRANGER)", in each HOUSE by all calls that ask for one. */
    private static void nobodyElse() {
        for (int riders = 0; riders <= 4; riders++) {
            for (int strangers = 0; strangers <= 2; strangers++) {
                String house = Check.house(6, riders, strangers);
                LiftExchange lift = Check.lift(house);
                for (int who : new int[] {0, 1, 2, 3, 4, 5, -1, 6, 7, 31, 32, Integer.MIN_VALUE, Integer.MAX_VALUE}) {
                    boolean there = who >= 0 && who < riders || who >= 4 && who < 4 + strangers;
                    boolean inside = there && who != riders - 1;
                    String of = "(" + who + ") of " + house;
                    Check.due("where" + of, lift.where(who), !there ? LiftExchange.UNKNOWN : inside ? 100 : 0);
                    Check.due("wants" + of, lift.wants(who), !there ? LiftExchange.UNKNOWN : who < 4 ? 1 : LiftExchange.NONE);
                    Check.due("byThen" + of, lift.byThen(who), !there ? LiftExchange.UNKNOWN : who < 4 ? 0 : 1);
                    Check.due("likely" + of, lift.likely(who, 10), there ? 10 : LiftExchange.UNKNOWN);
                }
            }
        }
    }

    private static LiftExchange busyWith(String text) {
        LiftExchange lift = Check.busy();
        lift.wipe();
        Check.write(lift, text);
        return lift;
    }

    /** "LATE: a FAULT", also one by which it is only not at its end. */
    private static void housesThatAreLate() {
        String[] texts = {"", "N", "N1", "N7", "n2", "N2I", "N2I2", "N2A", "N2A0", "N2A00", "N2S", "N2TTT", "N2I0I0I0I0I",
            "N2I0I0I0I0I0", "N2 ", LONGEST + "T", LONGEST.substring(0, 17), "N2" + "T".repeat(38)};
        for (String text : texts) {
            Check.refused(() -> busyWith(text), "house() of " + text, LiftExchange::house, LiftExchange.LATE);
        }
        Check.refused(LiftExchange::new, "house() of a new object", LiftExchange::house, LiftExchange.LATE);
    }

    /** "THE TEXT itself stays; no HALTS were made, THE HOIST is at FLOOR 0, nothing is SEEN; what was kept stays". */
    private static void houseAnew() {
        LiftExchange lift = busyWith("N2");
        Check.due("about(5) ahead of house()", lift.about(5), 3);
        Check.due("house()", lift.house(), 0);
        int[] about = {2, 0, 0, 0, 0, 0, 0, 0, 2, 0};
        for (int what = 0; what < about.length; what++) {
            Check.due("about(" + what + ") behind house()", lift.about(what), about[what]);
        }
        Check.due("made(0, 0)", lift.made(0, 0), LiftExchange.NONE);
        Check.due("back()", lift.back(), LiftExchange.LATE);
        Check.due("fault()", lift.fault(), LiftExchange.NONE);
        Check.due("unsee()", lift.unsee(), 0);
        Check.due("again(1), which was not kept", lift.again(1), LiftExchange.LATE);
        Check.due("again(0), which was kept", lift.again(0), 5);
        Check.due("about(0)", lift.about(0), 4);
        Check.due("house() once more", lift.house(), 0);
        LiftExchange full = Check.changed(24);
        full.see(1, 1);
        Check.due("house() behind 24 HALTS", full.house(), 2);
        Check.due("about(6)", full.about(6), 0);
        Check.due("about(9)", full.about(9), 0);
        Check.due("where(4)", full.where(4), 100);
        Check.due("halt(1, 16, 32)", full.halt(1, 16, 32), 1);
    }

    /** THE TEXT is THE HOUSE: of the one before nothing is left, nor of a text that was none. */
    private static void houseOfFewer() {
        String[] befores = {"N6I0I1I2I3TT", LONGEST, "N6A01A12A23A34S4S5", "N6A01A12A23A34S4S5 ", "N6I0I1TTT"};
        String[] houses = {"N2", "N6", "N2T", "N6S5", "N2A10", "N6I5", "N2I0A10TS0"};
        for (String before : befores) {
            for (String house : houses) {
                LiftExchange lift = new LiftExchange();
                Check.rebuild(lift, before);
                lift.reached();
                Check.rebuild(lift, house);
                Check.due("ways() of " + house, lift.ways(), 1);
                Check.same(house + " behind " + before, Check.look(lift), Check.look(Check.lift(house)));
            }
        }
    }

    private static void dueAbout(LiftExchange lift, int what, int want) {
        Check.due("about(" + what + ")", lift.about(what), want);
    }

    /** "INSIDE (3), DONE (4), where THE HOIST is (5), HALTS .. (6), FLIGHTS (7), bytes .. (8), SEEN (9)" at their most. */
    private static void aboutFromTheLeastToTheMost() {
        dueAbout(Check.lift("N2I0I0I0I0TT"), 3, 6);
        dueAbout(Check.lift("N2A01A01A01A01S0S1"), 3, 0);
        LiftExchange done = Check.lift("N6I5A50A05A50S5T");
        Check.due("halt(5, 1, 2)", done.halt(5, 1, 2), 1);
        dueAbout(done, 7, 5);
        Check.due("halt(0, 2, 4)", done.halt(0, 2, 4), 1);
        dueAbout(done, 5, 0);
        dueAbout(done, 7, 10);
        Check.due("halt(5, 4, 8)", done.halt(5, 4, 8), 1);
        dueAbout(done, 5, 5);
        dueAbout(done, 7, 15);
        Check.due("halt(5, 32, 16)", done.halt(5, 32, 16), 1);
        dueAbout(done, 7, 15);
        dueAbout(done, 6, 4);
        dueAbout(done, 4, 3);
        Check.due("back()", done.back(), 3);
        Check.due("back()", done.back(), 2);
        dueAbout(done, 5, 0);
        dueAbout(done, 7, 10);
        LiftExchange all = Check.lift("N2I0I0A01A01S1S1");
        Check.due("halt(0, 3, 12)", all.halt(0, 3, 12), 2);
        Check.due("halt(1, 12, 48)", all.halt(1, 12, 48), 2);
        dueAbout(all, 3, 2);
        dueAbout(all, 4, 4);
        LiftExchange full = Check.changed(24);
        dueAbout(full, 6, 24);
        dueAbout(full, 7, 1);
        for (int i = 1; i <= 8; i++) {
            full.see(0, 1);
            dueAbout(full, 9, i);
        }
        dueAbout(bytes(38), 8, 40);
    }

    /** "BAD" of what is none of 0 .. 9. */
    private static void aboutThatIsBad() {
        for (int what : Check.outside(0, 9)) {
            Check.refused(Check::busy, "about(" + what + ")", x -> x.about(what), LiftExchange.BAD);
            Check.due("about(" + what + ") of a new object", new LiftExchange().about(what), LiftExchange.BAD);
        }
    }

    /** "a FLOOR, 100 INSIDE, 200 DONE", from FLOOR 0 to the last one. */
    private static void whereOneIs() {
        for (int floor = 0; floor < 6; floor++) {
            String house = "N6A" + floor + (floor == 0 ? 1 : 0) + "S" + floor + "TI" + floor;
            LiftExchange lift = Check.lift(house);
            Check.due("where(0) of " + house, lift.where(0), floor);
            Check.due("where(1) of " + house, lift.where(1), 100);
            Check.due("where(4) of " + house, lift.where(4), floor);
            Check.due("where(5) of " + house, lift.where(5), 100);
            Check.due("halt(" + floor + ", 34, 17) of " + house, lift.halt(floor, 34, 17), 2);
            Check.due("where(0) then", lift.where(0), 100);
            Check.due("where(1) then", lift.where(1), 200);
            Check.due("where(4) then", lift.where(4), 100);
            Check.due("where(5) then", lift.where(5), floor);
        }
        for (int who : new int[] {3, -1, 6, Integer.MIN_VALUE, Integer.MAX_VALUE}) {
            Check.refused(Check::busy, "where(" + who + ")", x -> x.where(who), LiftExchange.UNKNOWN);
        }
    }

    /** "What a RIDER WANTS; NONE: a STRANGER. UNKNOWN." */
    private static void whatOneWants() {
        for (int floor = 0; floor < 6; floor++) {
            int from = floor == 5 ? 0 : 5;
            LiftExchange lift = Check.lift("N6I" + floor + "A" + from + floor + "S" + floor + "T");
            Check.due("wants(0), FLOOR " + floor, lift.wants(0), floor);
            Check.due("wants(1), FLOOR " + floor, lift.wants(1), floor);
            Check.due("wants(4)", lift.wants(4), LiftExchange.NONE);
            Check.due("wants(5)", lift.wants(5), LiftExchange.NONE);
        }
        for (int who : new int[] {3, -1, 6, Integer.MIN_VALUE, Integer.MAX_VALUE}) {
            Check.refused(Check::busy, "wants(" + who + ")", x -> x.wants(who), LiftExchange.UNKNOWN);
        }
    }

    /** "An object is used for at most 512 calls": the 512th one is still answered as is due. */
    private static void theLastCallOfAnObject() {
        LiftExchange lift = new LiftExchange();
        lift.write(6, 0x4E3354413132L);
        lift.house();
        for (int i = 0; i < 169; i++) {
            lift.keep(i % 2);
            lift.halt(1, 16, 1);
            lift.back();
        }
        Check.due("the 510th call, reached()", lift.reached(), 2);
        Check.due("the 511th call, about(8)", lift.about(8), 6);
        Check.due("the 512th call, hire()", lift.hire(), 12);
    }
}
