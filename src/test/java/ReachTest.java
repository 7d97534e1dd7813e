import java.util.ArrayList;
import java.util.List;

/**
 * Goes through all houses of six FLOORS (fewer have fewer), the numbers of RIDERS and STRANGERS left aside: never are
 * more STATES reached than the program's rows have room for. What HALTS, hired STRANGERS and walks make of a house can
 * stand in another house's text, so that these are among them.
 */
final class ReachTest {
    private static final int FLOORS = 6;
    private static final int MOST_REACHED = 90;
    /** Of an object nothing is promised behind its 512th call, and a house takes up to seven. */
    private static final int HOUSES_AN_OBJECT = 64;
    private LiftExchange lift = new LiftExchange();
    private int houses = 0;
    private int most = 0;

    public static void main(String[] args) {
        ReachTest test = new ReachTest();
        test.addRiders(riders(), 0, 4, "N" + FLOORS);
        Check.due("the most STATES of a house", test.most, MOST_REACHED);
        Check.end();
    }

    private static List<String> riders() {
        List<String> riders = new ArrayList<>();
        for (int want = 0; want < FLOORS; want++) {
            riders.add("I" + want);
            for (int floor = 0; floor < FLOORS; floor++) {
                if (floor != want) {
                    riders.add("A" + floor + want);
                }
            }
        }
        return riders;
    }

    private void addRiders(List<String> riders, int from, int left, String house) {
        addStrangers(house);
        for (int i = from; left > 0 && i < riders.size(); i++) {
            addRiders(riders, i, left - 1, house + riders.get(i));
        }
    }

    private void addStrangers(String house) {
        for (int one = 0; one <= FLOORS + 1; one++) {
            for (int other = one; other <= FLOORS + 1; other++) {
                tryOut(house + stranger(one) + stranger(other));
            }
        }
    }

    private static String stranger(int number) {
        return number == FLOORS + 1 ? "" : number == FLOORS ? "T" : "S" + number;
    }

    private void tryOut(String house) {
        if (house.indexOf('I') < 0 && house.indexOf('T') < 0) {
            return;
        }
        houses++;
        if (houses % HOUSES_AN_OBJECT == 0) {
            lift = new LiftExchange();
        }
        Check.rebuild(lift, house);
        most = Math.max(most, lift.reached());
    }
}
