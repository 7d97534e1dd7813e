import java.nio.charset.StandardCharsets;
import java.util.Arrays;
import java.util.function.ToLongFunction;

/** What the tests share: answers that are due, houses from texts, all that can be asked of an object without changing it. */
final class Check {
    private static final int BYTES_A_CALL = 8;
    private static final int FLOORS = 6;
    private static final int PEOPLE = 6;
    private static int checked = 0;
    private static int wrong = 0;

    private Check() {
    }

    static void due(String call, long got, long want) {
        checked++;
        if (got != want) {
            wrong++;
            System.out.println(call + " answered " + got + ", due is " + want);
        }
    }

    static void same(String what, String got, String want) {
        checked++;
        if (!got.equals(want)) {
            wrong++;
            System.out.println(what + ": " + got + ", due is " + want);
        }
    }

    /** Prints the count, ends with exit code 1 if an answer was wrong. */
    static void end() {
        System.out.println(checked + " answers, " + wrong + " not as due");
        if (wrong != 0 || checked == 0) {
            System.exit(1);
        }
    }

    /** Writes a text of signs 0 to 255 behind THE TEXT; the last answer of write. */
    static int write(LiftExchange lift, String text) {
        byte[] bytes = text.getBytes(StandardCharsets.ISO_8859_1);
        int answer = lift.about(8);
        for (int from = 0; from < bytes.length; from += BYTES_A_CALL) {
            byte[] piece = Arrays.copyOfRange(bytes, from, Math.min(bytes.length, from + BYTES_A_CALL));
            long v = 0;
            for (byte b : piece) {
                v = v << 8 | b & 255;
            }
            answer = lift.write(piece.length, v);
        }
        return answer;
    }

    /** Makes the house anew from a text; the answer of house. */
    static int rebuild(LiftExchange lift, String text) {
        lift.wipe();
        write(lift, text);
        return lift.house();
    }

    static LiftExchange lift(String text) {
        LiftExchange lift = new LiftExchange();
        int people = rebuild(lift, text);
        if (people < 0) {
            throw new IllegalArgumentException(text + " is no house: " + people);
        }
        return lift;
    }

    /** What one sees of all that calls can change, in some 80 calls. */
    static String look(LiftExchange lift) {
        StringBuilder seen = new StringBuilder();
        for (int what = 0; what < 10; what++) {
            seen.append(lift.about(what)).append(' ');
        }
        seen.append("| ");
        for (int who = 0; who < PEOPLE; who++) {
            seen.append(lift.where(who)).append(',').append(lift.wants(who)).append(',').append(lift.byThen(who)).append(' ');
        }
        seen.append("| ");
        for (int floor = 0; floor < FLOORS; floor++) {
            seen.append(lift.may(floor, true)).append(',').append(lift.may(floor, false)).append(',');
            seen.append(lift.even(floor, true)).append('/').append(lift.even(floor, false)).append(' ');
        }
        seen.append("| ").append(lift.fault()).append(' ').append(lift.ways()).append(' ').append(lift.reached()).append(" | ");
        int last = lift.about(6) - 1;
        for (int what = 0; what < 3; what++) {
            seen.append(lift.made(last, what)).append(',').append(lift.made(0, what)).append(' ');
        }
        return seen.toString();
    }

    /** A call that is refused: what it answers, and that all is as before. */
    static void refused(LiftExchange lift, String call, ToLongFunction<LiftExchange> made, long want) {
        String before = look(lift);
        due(call, made.applyAsLong(lift), want);
        same("behind the refused " + call, look(lift), before);
    }
}
