import java.nio.charset.StandardCharsets;
import java.util.Arrays;
import java.util.function.Supplier;
import java.util.function.ToLongFunction;

/** What the tests share: answers that are due, houses from texts, all that can be asked of an object without changing it. */
final class Check {
    private static final int BYTES_A_CALL = 8;
    private static final int FLOORS = 6;
    private static final int PEOPLE = 6;
    private static int checked = 0;
    private static int wrong = 0;

    private Check() {
    }

    static void due(String call, long got, long want) {
        checked++;
        if (got != want) {
            wrong++;
            System.out.println(call + " answered " + got + ", due is " + want);
        }
    }

    static void same(String what, String got, String want) {
        checked++;
        if (!got.equals(want)) {
            wrong++;
            System.out.println(what + ": " + got + ", due is " + want);
        }
    }

    /** Prints the count, ends with exit code 1 if an answer was wrong. */
    static void end() {
        System.out.println(checked + " answers, " + wrong + " not as due");
        if (wrong != 0 || checked == 0) {
            System.exit(1);
        }
    }

    /** Writes a text of signs 0 to 255 behind THE TEXT; the last answer of write. */
    static int write(LiftExchange lift, String text) {
        byte[] bytes = text.getBytes(StandardCharsets.ISO_8859_1);
        int answer = lift.about(8);
        for (int from = 0; from < bytes.length; from += BYTES_A_CALL) {
            byte[] piece = Arrays.copyOfRange(bytes, from, Math.min(bytes.length, from + BYTES_A_CALL));
            long v = 0;
            for (byte b : piece) {
                v = v << 8 | b & 255;
            }
            answer = lift.write(piece.length, v);
        }
        return answer;
    }

    /** Makes the house anew from a text; the answer of house. */
    static int rebuild(LiftExchange lift, String text) {
        lift.wipe();
        write(lift, text);
        return lift.house();
    }

    static LiftExchange lift(String text) {
        LiftExchange lift = new LiftExchange();
        int people = rebuild(lift, text);
        if (people < 0) {
            throw new IllegalArgumentException(text + " is no house: " + people);
        }
        return lift;
    }

    /** What one sees of all that calls can change but what is kept, in some 90 calls and three more for each HALT. */
    static String look(LiftExchange lift) {
        StringBuilder seen = new StringBuilder();
        for (int what = 0; what < 10; what++) {
            seen.append(lift.about(what)).append(' ');
        }
        seen.append("| ");
        for (int who = 0; who < PEOPLE; who++) {
            seen.append(lift.where(who)).append(',').append(lift.wants(who)).append(',').append(lift.byThen(who)).append(',');
            seen.append(tenths(lift, who)).append(' ');
        }
        seen.append("| ");
        for (int floor = 0; floor < FLOORS; floor++) {
            seen.append(lift.may(floor, true)).append(',').append(lift.may(floor, false)).append(',');
            seen.append(lift.choices(floor)).append(',');
            seen.append(lift.even(floor, true)).append('/').append(lift.even(floor, false)).append(' ');
        }
        seen.append("| ").append(lift.fault()).append(' ').append(lift.ways()).append(' ').append(lift.reached()).append(" | ");
        for (int i = 0; i < lift.about(6); i++) {
            seen.append(made(lift, i)).append(' ');
        }
        return seen.toString();
    }

    /** The i-th HALT: its FLOOR, who got OUT, who got IN. */
    static String made(LiftExchange lift, int i) {
        return lift.made(i, 0) + ":" + lift.made(i, 1) + "/" + lift.made(i, 2);
    }

    /** By how many tenths one is there: it can be asked only by telling another number, which is taken back. */
    private static int tenths(LiftExchange lift, int who) {
        int tenths = lift.likely(who, 0);
        lift.likely(who, tenths);
        return tenths;
    }

    /** What is kept, too; the last that is done with an object. */
    private static String lookAtAll(LiftExchange lift) {
        StringBuilder seen = new StringBuilder(look(lift));
        for (int slot = 0; slot < 2; slot++) {
            seen.append("| ").append(lift.again(slot)).append(' ').append(look(lift));
        }
        return seen.toString();
    }

    /** A call that is refused: what it answers, and that all is as before. */
    static void refused(LiftExchange lift, String call, ToLongFunction<LiftExchange> made, long want) {
        String before = look(lift);
        due(call, made.applyAsLong(lift), want);
        same("behind the refused " + call, look(lift), before);
    }

    /** The same of an object that is made for it, what is kept included: it is as one of which the call was not asked. */
    static void refused(Supplier<LiftExchange> maker, String call, ToLongFunction<LiftExchange> made, long want) {
        LiftExchange lift = maker.get();
        due(call, made.applyAsLong(lift), want);
        same("behind the refused " + call, lookAtAll(lift), lookAtAll(maker.get()));
    }

    /**
     * Something of all that a refusal could change: RIDERS 0 and 1 are DONE, 2 is INSIDE, 3 there is not; STRANGER 4
     * stands at 1, 5 is INSIDE; two HALTS, two that are SEEN, a SLOT that is kept and one that is not, a text with a fault.
     */
    static LiftExchange busy() {
        LiftExchange lift = lift("N4I1A13A32S1T");
        lift.keep(0);
        lift.halt(1, 1, 2);
        lift.halt(3, 2, 4);
        lift.see(1, 1);
        lift.see(1, 1);
        lift.likely(4, 3);
        lift.likely(5, 7);
        lift.wipe();
        write(lift, "N5I4A1");
        return lift;
    }

    /** A row of HALTS that is as long as that: at FLOOR 1 two STRANGERS change places, 4 gets OUT first. */
    static LiftExchange changed(int times) {
        LiftExchange lift = lift("N3TS1");
        for (int i = 0; i < times; i++) {
            due("halt " + i, i % 2 == 0 ? lift.halt(1, 16, 32) : lift.halt(1, 32, 16), 1);
        }
        return lift;
    }

    /** Just outside of what is taken, and as far outside as can be. */
    static int[] outside(int least, int greatest) {
        return new int[] {least - 1, greatest + 1, Integer.MIN_VALUE, Integer.MAX_VALUE};
    }

    /** So many FLOORS, RIDERS that are INSIDE (the last of them stands), STRANGERS that are INSIDE. */
    static String house(int floors, int riders, int strangers) {
        String inside = riders == 0 ? "" : "I1".repeat(riders - 1) + "A01";
        return "N" + floors + inside + "T".repeat(strangers);
    }
}
