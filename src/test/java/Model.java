import java.math.BigInteger;
import java.util.ArrayList;
import java.util.Arrays;
import java.util.HashMap;
import java.util.List;
import java.util.Map;
import java.util.regex.Matcher;
import java.util.regex.Pattern;

/**
 * The document once more, slowly and by other means: places in lists, faults by patterns, plans by distances, ways by
 * walking every row of HALTS, chances by every set of those that are there.
 */
final class Model {
    static final int UNKNOWN = -1, BAD = -2, LATE = -3, FULL = -4, NONE = -9;
    private static final int INSIDE = 100, DONE = 200, NOBODY = -1;

    /** FLOORS, what each WANTS, where each is (RIDERS 0 .. 3, STRANGERS 4 and 5), and what was made. */
    private static final class World {
        int floors = 2;
        int[] wants = {NOBODY, NOBODY, NOBODY, NOBODY, NOBODY, NOBODY};
        List<Integer> places = List.of(NOBODY, NOBODY, NOBODY, NOBODY, NOBODY, NOBODY);
        List<int[]> made = new ArrayList<>();
        /** The places ahead of each HALT. */
        List<List<Integer>> before = new ArrayList<>();

        World copy() {
            World copy = new World();
            copy.floors = floors;
            copy.wants = wants.clone();
            copy.places = places;
            copy.made = new ArrayList<>(made);
            copy.before = new ArrayList<>(before);
            return copy;
        }

        boolean has(int who) {
            return who >= 0 && who < 6 && places.get(who) != NOBODY;
        }

        int riders() {
            int count = 0;
            for (int who = 0; who < 4; who++) {
                count += has(who) ? 1 : 0;
            }
            return count;
        }

        int strangers() {
            return (has(4) ? 1 : 0) + (has(5) ? 1 : 0);
        }

        int all() {
            return (1 << riders()) - 1;
        }
    }

    private final StringBuilder text = new StringBuilder();
    private World world = new World();
    private final World[] kept = new World[2];
    private final List<int[]> seen = new ArrayList<>();
    private final int[] tenths = {10, 10, 10, 10, 10, 10};

    int write(int n, long v) {
        if (n < 1 || n > 8) {
            return BAD;
        }
        if (text.length() + n > 40) {
            return FULL;
        }
        byte[] bytes = java.nio.ByteBuffer.allocate(8).putLong(v).array();
        for (int i = 8 - n; i < 8; i++) {
            text.append((char) (bytes[i] & 255));
        }
        return text.length();
    }

    int wipe() {
        int was = text.length();
        text.setLength(0);
        return was;
    }

    /** Whether a text is a house (+1) or the start of one (+2). */
    private static int house(String text) {
        StringBuilder any = new StringBuilder("[^\\x00-\\xff]");
        for (int n = 2; n <= 6; n++) {
            StringBuilder pairs = new StringBuilder();
            for (int f = 0; f < n; f++) {
                StringBuilder others = new StringBuilder();
                for (int w = 0; w < n; w++) {
                    others.append(w == f ? "" : w);
                }
                pairs.append(f == 0 ? "" : "|").append("A").append(f).append("[").append(others).append("]");
            }
            String floor = "[0-" + (n - 1) + "]";
            any.append("|N").append(n).append("(?:I").append(floor).append("|").append(pairs)
                .append("|S").append(floor).append("|T)*");
        }
        long riders = text.chars().filter(c -> c == 'I' || c == 'A').count();
        long strangers = text.chars().filter(c -> c == 'S' || c == 'T').count();
        if (riders > 4 || strangers > 2) {
            return 0;
        }
        Matcher matcher = Pattern.compile("(?s:" + any + ")").matcher(text);
        boolean whole = matcher.matches();
        return (whole ? 1 : 0) + (whole || matcher.hitEnd() ? 2 : 0);
    }

    int fault() {
        for (int end = 1; end <= text.length(); end++) {
            if (house(text.substring(0, end)) < 2) {
                return end - 1;
            }
        }
        return house(text.toString()) == 3 ? NONE : text.length();
    }

    int house() {
        if (fault() != NONE) {
            return LATE;
        }
        world = new World();
        world.floors = text.charAt(1) - '0';
        int rider = 0;
        int stranger = 4;
        Integer[] places = new Integer[6];
        Arrays.fill(places, NOBODY);
        Matcher part = Pattern.compile("[IAST]\\d*").matcher(text.substring(2));
        while (part.find()) {
            String told = part.group();
            char kind = told.charAt(0);
            int place = kind == 'A' || kind == 'S' ? told.charAt(1) - '0' : INSIDE;
            if (kind == 'I' || kind == 'A') {
                world.wants[rider] = told.charAt(told.length() - 1) - '0';
                places[rider++] = place;
            } else {
                places[stranger++] = place;
            }
        }
        world.places = List.of(places);
        seen.clear();
        Arrays.fill(tenths, 10);
        return people();
    }

    private int people() {
        return world.riders() + world.strangers();
    }

    private static int at(List<Integer> places, int place) {
        return (int) places.stream().filter(p -> p == place).count();
    }

    int about(int what) {
        int hoist = world.made.isEmpty() ? 0 : world.made.get(world.made.size() - 1)[0];
        int flights = 0;
        int from = 0;
        for (int[] halt : world.made) {
            flights += Math.max(halt[0] - from, from - halt[0]);
            from = halt[0];
        }
        int[] told = {world.floors, world.riders(), world.strangers(), at(world.places, INSIDE), at(world.places, DONE), hoist,
            world.made.size(), flights, text.length(), seen.size()};
        return what < 0 || what >= told.length ? BAD : told[what];
    }

    int where(int who) {
        return world.has(who) ? world.places.get(who) : UNKNOWN;
    }

    int wants(int who) {
        return !world.has(who) ? UNKNOWN : who < 4 ? world.wants[who] : NONE;
    }

    private static boolean mayLeave(World world, List<Integer> places, int who, int floor) {
        return places.get(who) == INSIDE && (who >= 4 || world.wants[who] == floor);
    }

    private int mayBits(int floor, boolean out) {
        int bits = 0;
        for (int who = 0; who < 6; who++) {
            boolean may = out ? mayLeave(world, world.places, who, floor) : world.places.get(who) == floor;
            bits += may ? 1 << who : 0;
        }
        return bits;
    }

    private boolean noFloor(int floor) {
        return floor < 0 || floor >= world.floors;
    }

    int may(int floor, boolean out) {
        return noFloor(floor) ? UNKNOWN : mayBits(floor, out);
    }

    private static boolean allMay(World world, List<Integer> places, int floor, int out, int in) {
        if (out <= 0 || in <= 0 || out > 63 || in > 63 || Integer.bitCount(out) != Integer.bitCount(in)) {
            return false;
        }
        for (int who = 0; who < 6; who++) {
            if ((out >> who & 1) == 1 && !mayLeave(world, places, who, floor)) {
                return false;
            }
            if ((in >> who & 1) == 1 && places.get(who) != floor) {
                return false;
            }
        }
        return true;
    }

    /** All HALTS that can be, in order. */
    private static List<int[]> halts(World world, List<Integer> places) {
        List<int[]> halts = new ArrayList<>();
        for (int floor = 0; floor < world.floors; floor++) {
            if (at(places, floor) == 0) {
                continue;
            }
            for (int out = 1; out < 64; out++) {
                for (int in = 1; in < 64; in++) {
                    if (allMay(world, places, floor, out, in)) {
                        halts.add(new int[] {floor, out, in});
                    }
                }
            }
        }
        return halts;
    }

    private static List<Integer> then(List<Integer> places, int[] halt) {
        List<Integer> then = new ArrayList<>(places);
        for (int who = 0; who < 6; who++) {
            if ((halt[1] >> who & 1) == 1) {
                then.set(who, who < 4 ? DONE : halt[0]);
            }
            if ((halt[2] >> who & 1) == 1) {
                then.set(who, INSIDE);
            }
        }
        return then;
    }

    int choices(int floor) {
        return noFloor(floor) ? UNKNOWN : (int) halts(world, world.places).stream().filter(h -> h[0] == floor).count();
    }

    int halt(int floor, int out, int in) {
        if (noFloor(floor)) {
            return UNKNOWN;
        }
        if (!allMay(world, world.places, floor, out, in)) {
            return BAD;
        }
        if (world.made.size() == 24) {
            return FULL;
        }
        make(new int[] {floor, out, in});
        return Integer.bitCount(out);
    }

    private void make(int[] halt) {
        world.made.add(halt);
        world.before.add(world.places);
        world.places = then(world.places, halt);
    }

    int back() {
        int last = world.made.size() - 1;
        if (last < 0) {
            return LATE;
        }
        world.made.remove(last);
        world.places = world.before.remove(last);
        return last;
    }

    int made(int i, int what) {
        if (what < 0 || what > 2) {
            return BAD;
        }
        return i < 0 || i >= world.made.size() ? NONE : world.made.get(i)[what];
    }

    /** How far each STATE is. */
    private static Map<List<Integer>, Integer> distances(World world, List<Integer> start) {
        Map<List<Integer>, Integer> far = new HashMap<>();
        List<List<Integer>> level = List.of(start);
        far.put(start, 0);
        for (int steps = 1; !level.isEmpty(); steps++) {
            List<List<Integer>> next = new ArrayList<>();
            for (List<Integer> places : level) {
                for (int[] halt : halts(world, places)) {
                    List<Integer> to = then(places, halt);
                    if (!far.containsKey(to)) {
                        far.put(to, steps);
                        next.add(to);
                    }
                }
            }
            level = next;
        }
        return far;
    }

    private static boolean done(List<Integer> places, int riders) {
        for (int who = 0; who < 4; who++) {
            if ((riders >> who & 1) == 1 && places.get(who) != DONE) {
                return false;
            }
        }
        return true;
    }

    private static int fewest(World world, List<Integer> start, int riders) {
        int least = Integer.MAX_VALUE;
        for (Map.Entry<List<Integer>, Integer> one : distances(world, start).entrySet()) {
            least = done(one.getKey(), riders) ? Math.min(least, one.getValue()) : least;
        }
        return least == Integer.MAX_VALUE ? NONE : least;
    }

    int reached() {
        return distances(world, world.places).size();
    }

    private boolean noRiders(int riders) {
        return riders < 0 || riders > world.all();
    }

    int fewest(int riders) {
        return noRiders(riders) ? BAD : fewest(world, world.places, riders);
    }

    int plan(int riders, int i, int what) {
        if (noRiders(riders) || what < 0 || what > 2) {
            return BAD;
        }
        int left = fewest(world, world.places, riders);
        if (left == NONE || i < 0 || i >= left) {
            return NONE;
        }
        List<Integer> places = world.places;
        for (int step = 0; step <= i; step++, left--) {
            for (int[] halt : halts(world, places)) {
                if (fewest(world, then(places, halt), riders) == left - 1) {
                    if (step == i) {
                        return halt[what];
                    }
                    places = then(places, halt);
                    break;
                }
            }
        }
        throw new IllegalStateException("a plan ends too soon");
    }

    int never() {
        int bits = 0;
        for (int who = 0; who < world.riders(); who++) {
            bits += fewest(world, world.places, 1 << who) == NONE ? 1 << who : 0;
        }
        return bits;
    }

    int hire() {
        int best = Integer.MAX_VALUE;
        int first = 4 + world.strangers();
        for (int one = NOBODY; one < world.floors; one++) {
            for (int other = NOBODY; other < world.floors; other++) {
                int many = (one == NOBODY ? 0 : 1) + (other == NOBODY ? 0 : 1);
                if (one != NOBODY && other == NOBODY || first + many > 6 || many == 2 && other < one) {
                    continue;
                }
                List<Integer> places = new ArrayList<>(world.places);
                if (many == 2) {
                    places.set(first, one);
                }
                if (many >= 1) {
                    places.set(first + many - 1, other);
                }
                int told = many == 0 ? 0 : many == 1 ? 10 + other : 100 + 10 * one + other;
                if (told < best && fewest(world, places, world.all()) != NONE) {
                    best = told;
                }
            }
        }
        return best == Integer.MAX_VALUE ? NONE : best;
    }

    int walks() {
        int least = fewest(world, world.places, world.all());
        int best = NONE;
        for (int who = 0; who < world.riders(); who++) {
            int from = world.places.get(who);
            for (int to = from - 1; to <= from + 1 && from < INSIDE; to += 2) {
                if (noFloor(to)) {
                    continue;
                }
                List<Integer> places = new ArrayList<>(world.places);
                places.set(who, to == world.wants[who] ? DONE : to);
                int then = fewest(world, places, world.all());
                if (then != NONE && (least == NONE || then < least)) {
                    least = then;
                    best = 10 * who + (to > from ? 1 : 0);
                }
            }
        }
        return best;
    }

    private int[] fullest(int floor) {
        int[] best = null;
        for (int[] halt : halts(world, world.places)) {
            boolean more = best == null || Integer.bitCount(halt[1]) > Integer.bitCount(best[1]);
            best = halt[0] == floor && more ? halt : best;
        }
        return leastNumbers(best);
    }

    /** The least numbers are not the least bits: of two and three the first, not of bits 6 and 9 the less. */
    private int[] leastNumbers(int[] halt) {
        if (halt == null) {
            return null;
        }
        int many = Integer.bitCount(halt[1]);
        return new int[] {halt[0], first(mayBits(halt[0], true), many), first(mayBits(halt[0], false), many)};
    }

    private static int first(int bits, int many) {
        int left = bits;
        for (int i = 0; i < many; i++) {
            left &= left - 1;
        }
        return bits - left;
    }

    int call(int rule) {
        if (rule < 0 || rule > 2) {
            return UNKNOWN;
        }
        if (world.made.size() == 24) {
            return FULL;
        }
        int hoist = about(5);
        List<Integer> order = new ArrayList<>();
        for (int floor = 0; floor < world.floors; floor++) {
            order.add(floor);
        }
        if (rule == 2) {
            order.clear();
            for (int floor = hoist; floor < world.floors; floor++) {
                order.add(floor);
            }
            for (int floor = world.floors - 1; floor >= 0; floor--) {
                order.add(floor);
            }
        } else {
            order.sort((a, b) -> Math.abs(a - hoist) - Math.abs(b - hoist));
        }
        int[] best = null;
        for (int floor : order) {
            int[] halt = fullest(floor);
            if (halt != null && (best == null || rule == 1 && Integer.bitCount(halt[1]) > Integer.bitCount(best[1]))) {
                best = halt;
            }
        }
        if (best == null) {
            return NONE;
        }
        make(best);
        return best[0];
    }

    int see(int floor, int k) {
        if (noFloor(floor)) {
            return UNKNOWN;
        }
        if (k < 1 || k > 6) {
            return BAD;
        }
        if (seen.size() == 8) {
            return FULL;
        }
        seen.add(new int[] {floor, k});
        return seen.size();
    }

    int unsee() {
        int was = seen.size();
        seen.clear();
        return was;
    }

    private long rows(List<Integer> places, int from, int who) {
        if (from == seen.size()) {
            return who < 0 || places.get(who) == (who < 4 ? DONE : INSIDE) ? 1 : 0;
        }
        long rows = 0;
        for (int[] halt : halts(world, places)) {
            if (halt[0] == seen.get(from)[0] && Integer.bitCount(halt[1]) == seen.get(from)[1]) {
                rows += rows(then(places, halt), from + 1, who);
            }
        }
        return rows;
    }

    long ways() {
        return rows(world.places, 0, -1);
    }

    long byThen(int who) {
        return world.has(who) ? rows(world.places, 0, who) : UNKNOWN;
    }

    int likely(int who, int to) {
        if (!world.has(who)) {
            return UNKNOWN;
        }
        if (to < 0 || to > 10) {
            return BAD;
        }
        int was = tenths[who];
        tenths[who] = to;
        return was;
    }

    long even(int floor, boolean upper) {
        if (noFloor(floor)) {
            return UNKNOWN;
        }
        int out = mayBits(floor, true);
        int in = mayBits(floor, false);
        long sum = 0;
        for (int there = 0; there < 64; there++) {
            long weight = 1;
            for (int who = 0; who < 6; who++) {
                weight *= (there >> who & 1) == 1 ? tenths[who] : 10 - tenths[who];
            }
            boolean even = Integer.bitCount(there & out) == Integer.bitCount(there & in) && (there & out) != 0;
            sum += even ? weight : 0;
        }
        BigInteger above = BigInteger.valueOf(sum);
        BigInteger below = BigInteger.valueOf(1_000_000);
        BigInteger divisor = above.gcd(below);
        return (upper ? above : below).divide(divisor).longValueExact();
    }

    int keep(int slot) {
        if (slot < 0 || slot > 1) {
            return UNKNOWN;
        }
        kept[slot] = world.copy();
        return people();
    }

    int again(int slot) {
        if (slot < 0 || slot > 1) {
            return UNKNOWN;
        }
        if (kept[slot] == null) {
            return LATE;
        }
        world = kept[slot].copy();
        return people();
    }
}
