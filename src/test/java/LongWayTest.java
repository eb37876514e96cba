import java.util.HashMap;
import java.util.Map;
import java.util.Random;

/**
 * Promises 29 to 33 on ways of up to 36 DAYS, on which TALES are too many to be told one by one:
 * they are told DAY by DAY from the first, all that end alike and were opened by the same HANDS
 * together.
 */
public final class LongWayTest {
    private static final Check CHECK = new Check("LongWayTest");
    private static final int RUNS = 400;

    /** Of TALES that end alike and were opened by the same HANDS: the least COST, how many have it, the first. */
    private record Best(int cost, long many, String first) {
        Best with(Best other) {
            if (other == null || cost < other.cost) {
                return this;
            }
            if (other.cost < cost) {
                return other;
            }
            return new Best(cost, many + other.many, first.compareTo(other.first) < 0 ? first : other.first);
        }
    }

    /** What a last DAY tells, and the HANDS that opened, a bit each. */
    private record End(int state, int openers) { }

    private interface Price {
        int of(int kind, int day, int hand, int seen);
    }

    private record Prices(String text, Price opens, Price doubt) { }

    private static final Prices[] PRICES = {
        new Prices("", (kind, day, hand, seen) -> 10, (kind, day, hand, seen) -> 10),
        new Prices("opens 0; doubt 0;", (kind, day, hand, seen) -> 0, (kind, day, hand, seen) -> 0),
        new Prices("opens 0; doubt 1;", (kind, day, hand, seen) -> 0, (kind, day, hand, seen) -> 1),
        new Prices("opens column; doubt 3;", (kind, day, hand, seen) -> day, (kind, day, hand, seen) -> 3),
        new Prices("opens 5 + number if kind == 7; doubt below * 4 + 1;",
            (kind, day, hand, seen) -> kind == 7 ? 5 + hand : 10, (kind, day, hand, seen) -> 4 * seen + 1),
        new Prices("opens kind - 7; doubt 1 if below != 1; doubt number;",
            (kind, day, hand, seen) -> kind - 7, (kind, day, hand, seen) -> seen != 1 ? 1 : hand),
        new Prices("opens column * 7 - number * 30 if kind == 8 or column < 20; opens 2; doubt 1000 * below - column + layers;",
            (kind, day, hand, seen) -> kind == 8 || day < 20 ? day * 7 - hand * 30 : 2,
            (kind, day, hand, seen) -> 1000 * seen - day),
        new Prices("opens 1 + below if number != 2; doubt 2 if column < 18 and kind == 9; doubt 1;",
            (kind, day, hand, seen) -> hand != 2 ? 1 : 10, (kind, day, hand, seen) -> day < 18 ? 2 : 1),
    };

    private final Random random = new Random(20261118);
    private Prices prices;
    private int[] handOf;
    private int hands;
    private int[][] looks;

    public static void main(String[] args) {
        LongWayTest test = new LongWayTest();
        for (int run = 0; run < RUNS; run++) {
            test.runOnce(run);
        }
        CHECK.end();
    }

    private void runOnce(int run) {
        LockedLetter x = new LockedLetter();
        prices = PRICES[run % PRICES.length];
        Check.read(x, prices.text);
        makeHands(x);
        makeLooks(x);
        String what = "run " + run + " with '" + prices.text + "'";
        for (int n : new int[] {0, 1, looks.length / 2, looks.length - 1, looks.length}) {
            ask(what + ", known by " + n, x, n);
        }
        askTurns(what, x);
    }

    private void makeHands(LockedLetter x) {
        hands = 1 + random.nextInt(6);
        handOf = new int[36];
        int day = 0;
        for (int hand = 0; hand < hands; hand++) {
            int more = hand == hands - 1 && random.nextBoolean() ? 36 - day : 1 + random.nextInt(36 / hands);
            CHECK.due("hand(" + more + ")", x.hand(more), hand);
            for (int end = day + more; day < end; day++) {
                handOf[day] = hand;
            }
        }
        handOf = java.util.Arrays.copyOf(handOf, day);
    }

    private void makeLooks(LockedLetter x) {
        looks = new int[1 + random.nextInt(40)][];
        for (int i = 0; i < looks.length; i++) {
            looks[i] = new int[] {random.nextInt(handOf.length), random.nextInt(3)};
            CHECK.due("look", x.look(looks[i][0], looks[i][1]), i);
        }
    }

    private void ask(String what, LockedLetter x, int n) {
        Map<End, Best> ends = tellAll(n);
        Best best = null;
        for (Best one : ends.values()) {
            best = one.with(best);
        }
        CHECK.due(what + ": tale", x.tale(n), best.cost);
        CHECK.due(what + ": tales", x.tales(n), best.many);
        CHECK.told(what, x, n, best.first);
        for (int hand = 0; hand < hands; hand++) {
            CHECK.due(what + ": opened(" + hand + ")", x.opened(hand, n), guilt(ends, best.cost, hand));
        }
    }

    private static int guilt(Map<End, Best> ends, int cost, int hand) {
        boolean did = false;
        boolean didNot = false;
        for (Map.Entry<End, Best> end : ends.entrySet()) {
            if (end.getValue().cost == cost) {
                boolean opened = (end.getKey().openers >> hand & 1) == 1;
                did |= opened;
                didNot |= !opened;
            }
        }
        return did && didNot ? 2 : did ? 1 : 0;
    }

    private void askTurns(String what, LockedLetter x) {
        String[] firsts = new String[looks.length + 1];
        for (int n = 0; n <= looks.length; n++) {
            Best best = null;
            for (Best one : tellAll(n).values()) {
                best = one.with(best);
            }
            firsts[n] = best.first;
        }
        int due = -1;
        for (int from = looks.length - 1; from >= 0; from--) {
            due = firsts[from].equals(firsts[from + 1]) ? due : from;
            CHECK.due(what + ": turned(" + from + ")", x.turned(from), due);
        }
    }

    private Map<End, Best> tellAll(int n) {
        Map<End, Best> ends = new HashMap<>();
        ends.put(new End(0, 0), new Best(0, 1, ""));
        for (int day = 0; day < handOf.length; day++) {
            Map<End, Best> next = new HashMap<>();
            for (Map.Entry<End, Best> end : ends.entrySet()) {
                for (int state = 0; state <= 2; state++) {
                    tellOn(end.getKey(), end.getValue(), day, state, n, next);
                }
            }
            ends = next;
        }
        return ends;
    }

    private void tellOn(End end, Best best, int day, int state, int n, Map<End, Best> next) {
        boolean changes = state != end.state;
        if (changes && (state == 0 || state == 2 && end.state != 1)) {
            return;
        }
        int cost = best.cost + doubts(day, state, n);
        int openers = end.openers;
        if (changes) {
            cost += held(prices.opens.of(state == 1 ? 7 : 8, day, handOf[day], 0));
            openers |= state == 1 ? 1 << handOf[day] : 0;
        }
        End then = new End(state, openers);
        next.put(then, new Best(cost, best.many, best.first + state).with(next.get(then)));
    }

    private int doubts(int day, int state, int n) {
        int cost = 0;
        for (int i = 0; i < n; i++) {
            if (looks[i][0] == day && looks[i][1] != state) {
                cost += held(prices.doubt.of(9, day, handOf[day], looks[i][1]));
            }
        }
        return cost;
    }

    private static int held(int price) {
        return Math.max(0, Math.min(1000, price));
    }
}
