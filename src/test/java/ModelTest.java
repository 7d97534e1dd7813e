/** Runs of calls, the same ones each time, made of LiftExchange and of the slow Model: they answer alike. */
final class ModelTest {
    private static final int RUNS = 1000;
    /** An object's 512th call is its last one of which something is promised; some calls are not counted here. */
    private static final int ANSWERS = 300;
    /** Behind such a large count the Model takes too long for plans. */
    private static final int MANY_STATES = 150;

    private long lot = 20261119;
    private LiftExchange lift;
    private Model model;
    private int run;
    private int answers;

    public static void main(String[] args) {
        ModelTest test = new ModelTest();
        for (int run = 0; run < RUNS; run++) {
            test.run(run);
        }
        Check.end();
    }

    private int pick(int below) {
        lot = lot * 6364136223846793005L + 1442695040888963407L;
        return (int) ((lot >>> 33) % below);
    }

    /** Mostly within 0 .. below - 1, now and then a little or far outside. */
    private int near(int below) {
        switch (pick(24)) {
            case 0: return -1 - pick(3);
            case 1: return below + pick(3);
            case 2: return pick(2) == 0 ? Integer.MIN_VALUE : Integer.MAX_VALUE;
            default: return pick(below);
        }
    }

    private void due(String call, long got, long want) {
        answers++;
        Check.due("run " + run + ": " + call, got, want);
    }

    private void run(int number) {
        run = number;
        lift = new LiftExchange();
        model = new Model();
        answers = 0;
        newHouse();
        while (answers < ANSWERS) {
            step();
        }
    }

    private void step() {
        switch (pick(32)) {
            case 0: newHouse(); break;
            case 1: oddText(); break;
            case 2: case 3: case 4: case 5: case 6: case 7: halt(); break;
            case 8: case 9: back(); break;
            case 10: case 11: case 12: call(); break;
            case 13: case 14: case 15: see(); break;
            case 16: case 17: likely(); break;
            case 18: keep(); break;
            case 19: again(); break;
            case 20: case 21: houses(); break;
            case 22: case 23: case 24: halts(); break;
            case 25: case 26: case 27: case 28: brings(); break;
            case 29: plan(); break;
            default: seen(); chances(); break;
        }
    }

    private void write(String text) {
        for (int i = 0; i < text.length(); i++) {
            int n = Math.min(text.length() - i, 1 + pick(8));
            long v = lot;
            for (int k = 0; k < n; k++) {
                v = v << 8 | text.charAt(i + k);
            }
            due("write(" + n + ", " + v + ")", lift.write(n, v), model.write(n, v));
            i += n - 1;
        }
    }

    private String text() {
        int floors = 2 + pick(5);
        int people = 1 + pick(6);
        StringBuilder text = new StringBuilder("N").append(floors);
        for (int i = 0; i < people; i++) {
            int at = pick(floors);
            int want = (at + 1 + pick(floors - 1)) % floors;
            switch (pick(7)) {
                case 0: case 1: text.append('I').append(want); break;
                case 2: case 3: case 4: text.append('A').append(at).append(want); break;
                case 5: text.append('S').append(at); break;
                default: text.append('T'); break;
            }
        }
        return text.toString();
    }

    private void newHouse() {
        due("wipe()", lift.wipe(), model.wipe());
        write(text());
        due("fault()", lift.fault(), model.fault());
        due("house()", lift.house(), model.house());
    }

    private void oddText() {
        String signs = "NIAST0123456" + (char) 0 + (char) 255 + "n7 ";
        if (pick(3) > 0) {
            due("wipe()", lift.wipe(), model.wipe());
        }
        StringBuilder text = new StringBuilder(text());
        for (int i = pick(3); i > 0; i--) {
            text.setCharAt(pick(text.length()), signs.charAt(pick(signs.length())));
        }
        text.setLength(pick(3) == 0 ? pick(text.length() + 1) : text.length());
        write(text.toString());
        int n = near(9);
        due("write(" + n + ", ..)", lift.write(n, lot), model.write(n, lot));
        due("fault()", lift.fault(), model.fault());
        due("house()", lift.house(), model.house());
    }

    private void halt() {
        int floor = near(lift.about(0));
        int out = near(64);
        int in = near(64);
        if (pick(8) > 0) {
            floor = floorWithHalts(pick(lift.about(0)));
            out = someOf(lift.may(floor, true));
            in = someOf(lift.may(floor, false));
        }
        due("halt(" + floor + ", " + out + ", " + in + ")", lift.halt(floor, out, in), model.halt(floor, out, in));
    }

    private int floorWithHalts(int from) {
        int floors = lift.about(0);
        for (int i = 0; i < floors; i++) {
            if (lift.choices((from + i) % floors) > 0) {
                return (from + i) % floors;
            }
        }
        return from;
    }

    private int someOf(int bits) {
        int some = bits & pick(64);
        return some == 0 || pick(2) == 0 ? bits & -bits : some;
    }

    private void back() {
        due("back()", lift.back(), model.back());
    }

    private void call() {
        int rule = near(3);
        due("call(" + rule + ")", lift.call(rule), model.call(rule));
        due("made(.., 1)", lift.made(lift.about(6) - 1, 1), model.made(model.about(6) - 1, 1));
        due("made(.., 2)", lift.made(lift.about(6) - 1, 2), model.made(model.about(6) - 1, 2));
    }

    private void see() {
        if (pick(4) == 0) {
            due("unsee()", lift.unsee(), model.unsee());
        }
        int floor = pick(3) == 0 ? near(lift.about(0)) : floorWithHalts(pick(lift.about(0)));
        int k = pick(4) == 0 ? near(8) : 1 + pick(2);
        due("see(" + floor + ", " + k + ")", lift.see(floor, k), model.see(floor, k));
    }

    private void likely() {
        int who = near(6);
        int tenths = near(11);
        due("likely(" + who + ", " + tenths + ")", lift.likely(who, tenths), model.likely(who, tenths));
    }

    private void keep() {
        int slot = near(2);
        due("keep(" + slot + ")", lift.keep(slot), model.keep(slot));
    }

    private void again() {
        int slot = near(2);
        due("again(" + slot + ")", lift.again(slot), model.again(slot));
    }

    private void houses() {
        for (int what = -1; what <= 10; what++) {
            due("about(" + what + ")", lift.about(what), model.about(what));
        }
        for (int who = -1; who <= 6; who++) {
            due("where(" + who + ")", lift.where(who), model.where(who));
            due("wants(" + who + ")", lift.wants(who), model.wants(who));
        }
    }

    private void halts() {
        for (int floor = -1; floor <= 6; floor++) {
            due("may(" + floor + ", true)", lift.may(floor, true), model.may(floor, true));
            due("may(" + floor + ", false)", lift.may(floor, false), model.may(floor, false));
            due("choices(" + floor + ")", lift.choices(floor), model.choices(floor));
        }
        int i = near(25);
        int what = near(3);
        due("made(" + i + ", " + what + ")", lift.made(i, what), model.made(i, what));
    }

    private void brings() {
        due("reached()", lift.reached(), model.reached());
        if (lift.reached() > MANY_STATES && pick(4) > 0) {
            return;
        }
        int riders = near(16);
        due("fewest(" + riders + ")", lift.fewest(riders), model.fewest(riders));
        due("never()", lift.never(), model.never());
        due("walks()", lift.walks(), model.walks());
        due("hire()", lift.hire(), model.hire());
        due("reached() behind hire()", lift.reached(), model.reached());
    }

    private void plan() {
        int riders = pick(4) == 0 ? near(16) : pick(16) & (1 << lift.about(1)) - 1;
        int what = near(3);
        if (lift.reached() > MANY_STATES) {
            return;
        }
        for (int call = 0; call < 8; call++) {
            int i = near(7);
            due("plan(" + riders + ", " + i + ", " + what + ")", lift.plan(riders, i, what), model.plan(riders, i, what));
        }
    }

    private void seen() {
        due("ways()", lift.ways(), model.ways());
        int who = near(6);
        due("byThen(" + who + ")", lift.byThen(who), model.byThen(who));
    }

    private void chances() {
        for (int floor = -1; floor <= lift.about(0); floor++) {
            due("even(" + floor + ", true)", lift.even(floor, true), model.even(floor, true));
            due("even(" + floor + ", false)", lift.even(floor, false), model.even(floor, false));
        }
    }
}
