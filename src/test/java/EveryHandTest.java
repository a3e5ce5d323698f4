import java.util.ArrayList;
import java.util.Arrays;
import java.util.List;
import java.util.stream.IntStream;

// Every hand that there can be, and for each one every question. What is due comes from tables over
// all numbers of tiles, 0 to 4 of each kind: each entry follows from those with one tile, pair or
// group more or less, so that no complete hand is ever compared with a hand.
public final class EveryHandTest {
    private static final int KINDS = 9;
    private static final int TABLE = 1953125;
    private static final int NONE = -4;

    // Each hand takes at most 29 calls (clear, 11 adds and 17 questions): 17 hands take at most 493 of the 512.
    private static final int HANDS_OF_AN_OBJECT = 17;

    /** What one tile of the kind adds to the number of a hand. */
    private static final int[] WORTH = new int[KINDS];

    private static final byte[] SIZE = new byte[TABLE];
    private static final byte[] GROUPS = new byte[TABLE];
    private static final byte[] WAYS = new byte[TABLE];
    private static final byte[] DISTANCE = new byte[TABLE];
    private static final short[] COMPLETIONS = new short[TABLE];

    private static int have(int number, int kind) {
        return number / WORTH[kind] % 5;
    }

    private static void fillSizes() {
        int worth = 1;
        for (int kind = 0; kind < KINDS; kind++) {
            WORTH[kind] = worth;
            worth *= 5;
        }
        for (int number = 1; number < TABLE; number++) {
            SIZE[number] = (byte) (SIZE[number / 5] + number % 5);
        }
    }

    /** What the groups add to a hand's number. */
    private static List<Integer> groupWorths() {
        List<Integer> worths = new ArrayList<>();
        for (int kind = 0; kind < KINDS; kind++) {
            worths.add(3 * WORTH[kind]);
        }
        for (int kind = 0; kind <= 4; kind++) {
            worths.add(WORTH[kind] + WORTH[kind + 1] + WORTH[kind + 2]);
        }
        return worths;
    }

    /** Whether each kind of the part is in the whole as often: then no digit borrows from the next. */
    private static boolean isPart(int part, int whole) {
        for (int kind = 0; kind < KINDS; kind++) {
            if (have(part, kind) > have(whole, kind)) {
                return false;
            }
        }
        return true;
    }

    private static void fillGroupsAndWays() {
        for (int kind = 0; kind < KINDS; kind++) {
            WAYS[2 * WORTH[kind]] = 1;
        }
        // One sort of group after the other, so that no order of groups is counted twice.
        for (int worth : groupWorths()) {
            for (int number = worth; number < TABLE; number++) {
                if (SIZE[number] <= 11 && isPart(worth, number)) {
                    WAYS[number] += WAYS[number - worth];
                    GROUPS[number] = (byte) Math.max(GROUPS[number], GROUPS[number - worth] + 1);
                }
            }
        }
    }

    private static boolean isComplete(int number) {
        return SIZE[number] == 11 && WAYS[number] > 0;
    }

    private static void fillDistances() {
        boolean[] holdsComplete = new boolean[TABLE];
        for (int number = 0; number < TABLE; number++) {
            holdsComplete[number] = isComplete(number);
            for (int kind = 0; kind < KINDS; kind++) {
                holdsComplete[number] |= have(number, kind) > 0 && holdsComplete[number - WORTH[kind]];
            }
        }
        for (int number = TABLE - 1; number >= 0; number--) {
            int least = holdsComplete[number] ? 0 : 100;
            for (int kind = 0; kind < KINDS; kind++) {
                if (have(number, kind) < 4) {
                    least = Math.min(least, DISTANCE[number + WORTH[kind]] + 1);
                }
            }
            DISTANCE[number] = (byte) least;
        }
    }

    private static void fillCompletions() {
        for (int number = 0; number < TABLE; number++) {
            COMPLETIONS[number] = (short) (isComplete(number) ? 1 : 0);
        }
        // Kind by kind, from four tiles down: what stands above it has all its tiles.
        for (int kind = 0; kind < KINDS; kind++) {
            for (int number = TABLE - 1; number >= 0; number--) {
                if (have(number, kind) < 4) {
                    COMPLETIONS[number] += COMPLETIONS[number + WORTH[kind]];
                }
            }
        }
    }

    private static int wanted(int number) {
        int set = 0;
        for (int kind = 0; kind < KINDS; kind++) {
            if (have(number, kind) < 4 && DISTANCE[number + WORTH[kind]] < DISTANCE[number]) {
                set += 1 << kind;
            }
        }
        return set;
    }

    private static int hope(int number) {
        int set = wanted(number);
        int sum = 0;
        for (int kind = 0; kind < KINDS; kind++) {
            sum += (set >> kind & 1) * (4 - have(number, kind));
        }
        return sum;
    }

    private static int best(int number) {
        int best = NONE;
        for (int kind = 0; kind < KINDS; kind++) {
            if (have(number, kind) > 0 && (best == NONE || isBetter(number - WORTH[kind], number - WORTH[best]))) {
                best = kind;
            }
        }
        return best;
    }

    private static boolean isBetter(int rest, int other) {
        if (DISTANCE[rest] != DISTANCE[other]) {
            return DISTANCE[rest] < DISTANCE[other];
        }
        return hope(rest) > hope(other);
    }

    private static int[] due(int number) {
        return new int[] {SIZE[number], DISTANCE[number], wanted(number), hope(number), best(number),
            GROUPS[number], WAYS[number], COMPLETIONS[number]};
    }

    private static int[] answered(TileHands hand) {
        return new int[] {hand.size(), hand.distance(), hand.wanted(), hand.hope(), hand.best(),
            hand.groups(), hand.ways(), hand.completions()};
    }

    private static boolean lay(TileHands hand, int number) {
        boolean isRight = hand.clear() >= 0;
        int size = 0;
        for (int kind = 0; kind < KINDS; kind++) {
            for (int count = 0; count < have(number, kind); count++) {
                size++;
                isRight &= hand.add(kind) == size;
            }
        }
        return isRight;
    }

    private static int wrongIn(int[] numbers) {
        TileHands hand = new TileHands();
        int wrong = 0;
        for (int number : numbers) {
            boolean isRight = lay(hand, number);
            int[] got = answered(hand);
            for (int kind = 0; kind < KINDS; kind++) {
                isRight &= hand.have(kind) == have(number, kind);
            }
            if (!isRight || !Arrays.equals(got, due(number))) {
                wrong++;
                System.out.println(named(number) + " answers " + Arrays.toString(got) + ", due is "
                        + Arrays.toString(due(number)));
            }
        }
        return wrong;
    }

    private static int[] share(int[] hands, int object) {
        int from = object * HANDS_OF_AN_OBJECT;
        return Arrays.copyOfRange(hands, from, Math.min(hands.length, from + HANDS_OF_AN_OBJECT));
    }

    private static String named(int number) {
        StringBuilder digits = new StringBuilder("hand ");
        for (int kind = 0; kind < KINDS; kind++) {
            digits.append(("" + kind).repeat(have(number, kind)));
        }
        return digits.toString();
    }

    public static void main(String[] args) {
        fillSizes();
        fillGroupsAndWays();
        fillDistances();
        fillCompletions();
        int[] hands = IntStream.range(0, TABLE).filter(number -> SIZE[number] <= 11).toArray();
        int objects = (hands.length + HANDS_OF_AN_OBJECT - 1) / HANDS_OF_AN_OBJECT;
        // Each object is used by one thread alone.
        int wrong = IntStream.range(0, objects).parallel().map(object -> wrongIn(share(hands, object))).sum();
        System.out.println(wrong == 0 ? "all answers are as due" : wrong + " hands do not answer as due");
        if (wrong != 0) {
            System.exit(1);
        }
    }
}
