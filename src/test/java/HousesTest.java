/** Promises 2 to 8: write, wipe, fault, house, about, where, wants. */
final class HousesTest {
    public static void main(String[] args) {
        bytesInOrder();
        textsThatAreFull();
        writesThatAreBad();
        wipes();
        faults();
        faultsAtEachByte();
        houses();
        houseAnew();
        housesThatAreLate();
        about();
        where();
        wants();
        Check.end();
    }

    private static void bytesInOrder() {
        LiftExchange lift = new LiftExchange();
        Check.due("write(1, 'N')", lift.write(1, 'N'), 1);
        Check.due("fault()", lift.fault(), 1);
        Check.due("write(3, \"4I3\")", lift.write(3, '4' << 16 | 'I' << 8 | '3'), 4);
        Check.due("house()", lift.house(), 1);
        Check.due("about(0)", lift.about(0), 4);
        Check.due("wants(0)", lift.wants(0), 3);
        lift.wipe();
        // what stands above the lowest n bytes is not written, whatever it is
        Check.due("write(2, ..\"N5\")", lift.write(2, 0xFEDCBA9876540000L | 'N' << 8 | '5'), 2);
        Check.due("write(1, ..\"T\")", lift.write(1, 0xFFFFFFFFFFFFFF00L | 'T'), 3);
        Check.due("house()", lift.house(), 1);
        Check.due("about(0)", lift.about(0), 5);
        lift.wipe();
        Check.due("write(8, \"N6I5A45T\")", lift.write(8, 0x4E36493541343554L), 8);
        Check.due("house()", lift.house(), 3);
        Check.due("wants(0)", lift.wants(0), 5);
        Check.due("where(1)", lift.where(1), 4);
        Check.due("where(4)", lift.where(4), 100);
        lift.wipe();
        Check.due("write(8, -1)", lift.write(8, -1L), 8);
        Check.due("fault()", lift.fault(), 0);
        lift.wipe();
        // a byte 78 + 128 is no N, and 78 + 256 never comes
        Check.due("write(1, 206)", lift.write(1, 206), 1);
        Check.due("fault()", lift.fault(), 0);
        lift.wipe();
        Check.due("write(1, 334)", lift.write(1, 334), 1);
        Check.due("fault()", lift.fault(), 1);
    }

    private static void textsThatAreFull() {
        LiftExchange lift = new LiftExchange();
        for (int i = 1; i <= 4; i++) {
            Check.due("write(8, 0)", lift.write(8, 0), 8 * i);
        }
        Check.due("write(7, 0)", lift.write(7, 0), 39);
        Check.refused(lift, "write(2, 0) at 39", x -> x.write(2, 0), LiftExchange.FULL);
        Check.refused(lift, "write(8, 0) at 39", x -> x.write(8, 0), LiftExchange.FULL);
        Check.due("write(1, 0)", lift.write(1, 0), 40);
        Check.refused(lift, "write(1, 0) at 40", x -> x.write(1, 0), LiftExchange.FULL);
        Check.due("write(9, 0) at 40", lift.write(9, 0), LiftExchange.BAD);
        Check.due("write(0, 0) at 40", lift.write(0, 0), LiftExchange.BAD);
        Check.due("wipe()", lift.wipe(), 40);
        Check.due("write(8, 0)", lift.write(8, 0), 8);
    }

    private static void writesThatAreBad() {
        int[] numbers = {0, -1, 9, 10, 40, Integer.MIN_VALUE, Integer.MAX_VALUE};
        for (int n : numbers) {
            LiftExchange lift = Check.lift("N3I1A12");
            Check.refused(lift, "write(" + n + ", 'T')", x -> x.write(n, 'T'), LiftExchange.BAD);
        }
    }

    private static void wipes() {
        LiftExchange lift = Check.lift("N3I1A12");
        Check.due("wipe()", lift.wipe(), 7);
        Check.due("about(8)", lift.about(8), 0);
        Check.due("fault()", lift.fault(), 0);
        Check.due("wipe()", lift.wipe(), 0);
        Check.due("about(0) behind wipe", lift.about(0), 3);
        Check.due("about(1) behind wipe", lift.about(1), 2);
    }

    private static void fault(String text, int want) {
        LiftExchange lift = new LiftExchange();
        Check.write(lift, text);
        Check.due("fault() of " + text, lift.fault(), want);
        Check.due("fault() once more of " + text, lift.fault(), want);
        Check.due("about(8) of " + text, lift.about(8), text.length());
    }

    private static void faults() {
        fault("", 0);
        fault("N", 1);
        fault("n2", 0);
        fault("I0", 0);
        fault(" N2", 0);
        fault("N1", 1);
        fault("N7", 1);
        fault("NN", 1);
        fault("N2", -9);
        fault("N6", -9);
        fault("N26", 2);
        fault("N2N2", 2);
        fault("N2i0", 2);
        fault("N2 ", 2);
        fault("N2I", 3);
        fault("N2I2", 3);
        fault("N2II", 3);
        fault("N2I1", -9);
        fault("N2A", 3);
        fault("N2A2", 3);
        fault("N2A0", 4);
        fault("N2A00", 4);
        fault("N2A02", 4);
        fault("N2A0I", 4);
        fault("N2A01", -9);
        fault("N2S", 3);
        fault("N2S2", 3);
        fault("N2ST", 3);
        fault("N2S0", -9);
        fault("N2T", -9);
        fault("N2T0", 3);
        fault("N2TT", -9);
        fault("N2TTT", 4);
        fault("N2TTS0", 4);
        fault("N2S0TS", 5);
        fault("N2S0S0S", 6);
        fault("N2I0I0I0I0", -9);
        fault("N2I0I0I0I0I", 10);
        fault("N2I0I0I0I0A", 10);
        fault("N2A01A01A01I0TT", -9);
        fault("N2A01A01A01I0A", 13);
        fault("N6A50A51A52A53S4S5", -9);
        fault("N6A50A51A52A53S4S5T", 18);
        fault("N6A50A51A52A53S4S5A", 18);
        fault("N6A50A51A52A53S4S5 ", 18);
        fault("N6TA50SA", 7);
        // 40 bytes, all but the first few behind the fault
        fault("N3TTTTTTTTTTTTTTTTTTTTTTTTTTTTTTTTTTTTTTT".substring(0, 40), 4);
    }

    /** A byte that no house has at its place is told there, whatever stood behind it. */
    private static void faultsAtEachByte() {
        String house = "N4I2A23A30S1TI0";
        for (int place = 0; place < house.length(); place++) {
            StringBuilder text = new StringBuilder(house);
            text.setCharAt(place, (char) 233);
            fault(text.toString(), place);
            text.setCharAt(place, (char) 0);
            fault(text.toString(), place);
        }
    }

    private static void houses() {
        LiftExchange lift = new LiftExchange();
        Check.due("house() N2", Check.rebuild(lift, "N2"), 0);
        Check.due("house() N6", Check.rebuild(lift, "N6"), 0);
        Check.due("about(0)", lift.about(0), 6);
        Check.due("house() N3TA02S1I1", Check.rebuild(lift, "N3TA02S1I1"), 4);
        Check.due("where(0)", lift.where(0), 0);
        Check.due("where(1)", lift.where(1), 100);
        Check.due("where(4)", lift.where(4), 100);
        Check.due("where(5)", lift.where(5), 1);
        Check.due("about(8)", lift.about(8), 10);
        Check.due("fault()", lift.fault(), -9);
        Check.due("house() once more", lift.house(), 4);
        // a smaller house keeps nothing of the one before
        Check.due("house() N2I0", Check.rebuild(lift, "N2I0"), 1);
        Check.due("where(1)", lift.where(1), LiftExchange.UNKNOWN);
        Check.due("where(4)", lift.where(4), LiftExchange.UNKNOWN);
        Check.due("may(0, true)", lift.may(0, true), 1);
        Check.due("may(0, false)", lift.may(0, false), 0);
        Check.due("may(1, true)", lift.may(1, true), 0);
        Check.due("may(1, false)", lift.may(1, false), 0);
        Check.due("may(2, false)", lift.may(2, false), LiftExchange.UNKNOWN);
        Check.due("reached()", lift.reached(), 1);
        // nor where RIDERS stood or what they WANTED
        Check.rebuild(lift, "N4A01A12A23TI3");
        Check.due("house() N4I3I3S2T", Check.rebuild(lift, "N4I3I3S2T"), 4);
        Check.due("may(0, false)", lift.may(0, false), 0);
        Check.due("may(1, false)", lift.may(1, false), 0);
        Check.due("may(2, false)", lift.may(2, false), 16);
        Check.due("may(1, true)", lift.may(1, true), 32);
        Check.due("may(2, true)", lift.may(2, true), 32);
        Check.due("may(3, true)", lift.may(3, true), 35);
        Check.due("house() N4A30", Check.rebuild(lift, "N4A30"), 1);
        Check.due("may(3, false)", lift.may(3, false), 1);
        Check.due("may(3, true)", lift.may(3, true), 0);
    }

    private static void houseAnew() {
        LiftExchange lift = Check.lift("N3I1A12T");
        lift.keep(1);
        Check.due("halt(1, 1, 2)", lift.halt(1, 1, 2), 1);
        lift.see(2, 1);
        lift.likely(0, 3);
        lift.likely(4, 0);
        Check.due("house()", lift.house(), 3);
        Check.due("about(3)", lift.about(3), 2);
        Check.due("about(4)", lift.about(4), 0);
        Check.due("about(5)", lift.about(5), 0);
        Check.due("about(6)", lift.about(6), 0);
        Check.due("about(7)", lift.about(7), 0);
        Check.due("about(8)", lift.about(8), 8);
        Check.due("about(9)", lift.about(9), 0);
        Check.due("back()", lift.back(), LiftExchange.LATE);
        Check.due("likely(0, 10)", lift.likely(0, 10), 10);
        Check.due("likely(4, 10)", lift.likely(4, 10), 10);
        Check.rebuild(lift, "N2");
        Check.due("again(1): what was kept stays", lift.again(1), 3);
        Check.due("about(0)", lift.about(0), 3);
    }

    private static void housesThatAreLate() {
        String[] texts = {"", "N", "N7", "N3A1", "N3A11", "N3TTT", "x", "N2I0I0I0I0I0"};
        for (String text : texts) {
            LiftExchange lift = Check.lift("N3I1A12S0");
            lift.halt(1, 1, 2);
            lift.see(0, 1);
            lift.likely(1, 4);
            lift.keep(0);
            lift.wipe();
            Check.write(lift, text);
            Check.refused(lift, "house() of " + text, LiftExchange::house, LiftExchange.LATE);
        }
        Check.refused(new LiftExchange(), "house() of a new object", LiftExchange::house, LiftExchange.LATE);
    }

    private static void aboutAll(LiftExchange lift, int... want) {
        for (int what = 0; what < want.length; what++) {
            Check.due("about(" + what + ")", lift.about(what), want[what]);
        }
    }

    private static void about() {
        LiftExchange lift = Check.lift("N6I3A35A05TS1");
        aboutAll(lift, 6, 3, 2, 2, 0, 0, 0, 0, 13, 0);
        lift.halt(3, 1, 2);
        aboutAll(lift, 6, 3, 2, 2, 1, 3, 1, 3, 13, 0);
        lift.see(1, 1);
        lift.see(1, 1);
        lift.halt(0, 16, 4);
        aboutAll(lift, 6, 3, 2, 2, 1, 0, 2, 6, 13, 2);
        lift.halt(0, 0, 0);
        aboutAll(lift, 6, 3, 2, 2, 1, 0, 2, 6, 13, 2);
        int[] bad = {-1, 10, 11, Integer.MIN_VALUE, Integer.MAX_VALUE};
        for (int what : bad) {
            Check.due("about(" + what + ")", lift.about(what), LiftExchange.BAD);
        }
    }

    private static void where() {
        LiftExchange lift = Check.lift("N5I4A42TS3");
        int[] want = {100, 4, -1, -1, 100, 3};
        for (int who = 0; who < want.length; who++) {
            Check.due("where(" + who + ")", lift.where(who), want[who]);
        }
        lift.halt(4, 1, 2);
        lift.halt(3, 16, 32);
        int[] then = {200, 100, -1, -1, 3, 100};
        for (int who = 0; who < then.length; who++) {
            Check.due("where(" + who + ") then", lift.where(who), then[who]);
        }
        int[] unknown = {-1, 6, 7, 32, Integer.MIN_VALUE, Integer.MAX_VALUE};
        for (int who : unknown) {
            Check.due("where(" + who + ")", lift.where(who), LiftExchange.UNKNOWN);
        }
        LiftExchange one = Check.lift("N2S1");
        Check.due("where(4)", one.where(4), 1);
        Check.due("where(5)", one.where(5), LiftExchange.UNKNOWN);
    }

    private static void wants() {
        LiftExchange lift = Check.lift("N5I4A42A03TI0");
        int[] want = {4, 2, 3, 0, -9, -1};
        for (int who = 0; who < want.length; who++) {
            Check.due("wants(" + who + ")", lift.wants(who), want[who]);
        }
        lift.halt(4, 1, 2);
        Check.due("wants(0), DONE", lift.wants(0), 4);
        int[] unknown = {-1, 6, 36, Integer.MIN_VALUE, Integer.MAX_VALUE};
        for (int who : unknown) {
            Check.due("wants(" + who + ")", lift.wants(who), LiftExchange.UNKNOWN);
        }
    }
}
