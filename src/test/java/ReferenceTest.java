import java.util.ArrayList;
import java.util.Arrays;
import java.util.List;

// Long runs of calls, each answer held against a second program that follows the words of the
// document's terms and shares no idea with the class: it tries all hands of 11 tiles, and
// divides by recursion.
public final class ReferenceTest {
    private static final int RUNS = 60;
    private static final int CALLS = 512;

    private static final List<int[]> COMPLETE = new ArrayList<>();

    private static int wrong = 0;
    private static long seed = 20261115L;

    private static int pick(int bound) {
        seed = seed * 6364136223846793005L + 1442695040888963407L;
        return (int) ((seed >>> 33) % bound);
    }

    private static void listComplete(int[] hand, int kind, int left) {
        if (kind == 9) {
            if (left == 0 && ways(hand) > 0) {
                COMPLETE.add(hand.clone());
            }
            return;
        }
        for (int count = 0; count <= 4 && count <= left; count++) {
            hand[kind] = count;
            listComplete(hand, kind + 1, left - count);
        }
        hand[kind] = 0;
    }

    private static int size(int[] hand) {
        return Arrays.stream(hand).sum();
    }

    private static int ways(int[] hand) {
        int sum = 0;
        for (int kind = 0; kind < 9; kind++) {
            if (hand[kind] >= 2) {
                hand[kind] -= 2;
                sum += divisions(hand, 0);
                hand[kind] += 2;
            }
        }
        return sum;
    }

    /** Divisions into groups alone, where no tile of a kind below from is left. */
    private static int divisions(int[] hand, int from) {
        if (from == 9) {
            return size(hand) == 0 ? 1 : 0;
        }
        int sum = 0;
        for (int threes = 0; threes * 3 <= hand[from]; threes++) {
            int runs = hand[from] - threes * 3;
            if (runs == 0) {
                int kept = hand[from];
                hand[from] = 0;
                sum += divisions(hand, from + 1);
                hand[from] = kept;
            } else if (from <= 4 && hand[from + 1] >= runs && hand[from + 2] >= runs) {
                int kept = hand[from];
                hand[from] = 0;
                hand[from + 1] -= runs;
                hand[from + 2] -= runs;
                sum += divisions(hand, from + 1);
                hand[from] = kept;
                hand[from + 1] += runs;
                hand[from + 2] += runs;
            }
        }
        return sum;
    }

    private static int groups(int[] hand) {
        int most = 0;
        for (int kind = 0; kind < 9; kind++) {
            if (hand[kind] >= 3) {
                hand[kind] -= 3;
                most = Math.max(most, 1 + groups(hand));
                hand[kind] += 3;
            }
            if (kind <= 4 && hand[kind] > 0 && hand[kind + 1] > 0 && hand[kind + 2] > 0) {
                for (int step = 0; step < 3; step++) {
                    hand[kind + step]--;
                }
                most = Math.max(most, 1 + groups(hand));
                for (int step = 0; step < 3; step++) {
                    hand[kind + step]++;
                }
            }
        }
        return most;
    }

    private static int distance(int[] hand) {
        int least = Integer.MAX_VALUE;
        for (int[] complete : COMPLETE) {
            int more = 0;
            for (int kind = 0; kind < 9; kind++) {
                more += Math.max(0, complete[kind] - hand[kind]);
            }
            least = Math.min(least, more);
        }
        return least;
    }

    private static int wanted(int[] hand) {
        int now = distance(hand);
        int set = 0;
        for (int kind = 0; kind < 9; kind++) {
            if (hand[kind] < 4) {
                hand[kind]++;
                if (distance(hand) < now) {
                    set += 1 << kind;
                }
                hand[kind]--;
            }
        }
        return set;
    }

    private static int hope(int[] hand) {
        int set = wanted(hand);
        int sum = 0;
        for (int kind = 0; kind < 9; kind++) {
            sum += (set >> kind & 1) * (4 - hand[kind]);
        }
        return sum;
    }

    private static int best(int[] hand) {
        int best = -4;
        // Distance first, then hope: no hope is as great as 100.
        int bestWorth = Integer.MIN_VALUE;
        for (int kind = 0; kind < 9; kind++) {
            if (hand[kind] > 0) {
                hand[kind]--;
                int worth = hope(hand) - 100 * distance(hand);
                hand[kind]++;
                if (worth > bestWorth) {
                    best = kind;
                    bestWorth = worth;
                }
            }
        }
        return best;
    }

    private static int completions(int[] hand) {
        int count = 0;
        for (int[] complete : COMPLETE) {
            boolean all = true;
            for (int kind = 0; kind < 9; kind++) {
                all &= complete[kind] >= hand[kind];
            }
            count += all ? 1 : 0;
        }
        return count;
    }

    private static int add(int[] hand, int kind) {
        if (kind < 0 || kind > 8) {
            return -1;
        }
        if (hand[kind] == 4) {
            return -4;
        }
        if (size(hand) == 11) {
            return -2;
        }
        hand[kind]++;
        return size(hand);
    }

    private static int drop(int[] hand, int kind) {
        if (kind < 0 || kind > 8) {
            return -1;
        }
        if (hand[kind] == 0) {
            return -4;
        }
        hand[kind]--;
        return size(hand);
    }

    private static int turn(int[] hand) {
        int[] old = hand.clone();
        for (int kind = 0; kind <= 6; kind++) {
            hand[6 - kind] = old[kind];
        }
        return size(hand);
    }

    private static int clear(int[] hand) {
        int had = size(hand);
        Arrays.fill(hand, 0);
        return had;
    }

    private static void due(String call, int[] before, int got, int want) {
        if (got != want) {
            wrong++;
            System.out.println(Arrays.toString(before) + ": " + call + " answered " + got + ", due is " + want);
        }
    }

    private static void look(TileHands x, int[] hand, int question, int kind) {
        switch (question) {
            case 0 -> due("size()", hand, x.size(), size(hand));
            case 1 -> due("have(" + kind + ")", hand, x.have(kind), kind < 0 || kind > 8 ? -1 : hand[kind]);
            case 2 -> due("distance()", hand, x.distance(), distance(hand));
            case 3 -> due("wanted()", hand, x.wanted(), wanted(hand));
            case 4 -> due("hope()", hand, x.hope(), hope(hand));
            case 5 -> due("best()", hand, x.best(), best(hand));
            case 6 -> due("groups()", hand, x.groups(), groups(hand));
            case 7 -> due("ways()", hand, x.ways(), ways(hand));
            default -> due("completions()", hand, x.completions(), completions(hand));
        }
    }

    private static void change(TileHands x, int[] hand, int adding) {
        int[] before = hand.clone();
        int kind = pick(30) == 0 ? (pick(2) == 0 ? -1 : 9) : pick(9);
        int choice = pick(100);
        if (choice < adding) {
            due("add(" + kind + ")", before, x.add(kind), add(hand, kind));
        } else if (choice < 94) {
            due("drop(" + kind + ")", before, x.drop(kind), drop(hand, kind));
        } else if (choice < 99) {
            due("turn()", before, x.turn(), turn(hand));
        } else {
            due("clear()", before, x.clear(), clear(hand));
        }
    }

    private static void randomRun() {
        TileHands x = new TileHands();
        int[] hand = new int[9];
        int adding = 50 + pick(40);
        for (int call = 0; call < CALLS; call++) {
            if (pick(2) == 0) {
                change(x, hand, adding);
            } else {
                look(x, hand, pick(9), pick(11) - 1);
            }
        }
    }

    /** Complete hands and hands near to them are rare among random ones, so they are sought out here. */
    private static void completeRun(int[] complete) {
        TileHands x = new TileHands();
        int[] hand = new int[9];
        for (int kind = 0; kind < 9; kind++) {
            for (int count = 0; count < complete[kind]; count++) {
                due("add(" + kind + ")", hand.clone(), x.add(kind), add(hand, kind));
            }
        }
        for (int question = 0; question < 9; question++) {
            look(x, hand, question, 0);
        }
        int away = pick(9);
        due("drop(" + away + ")", hand.clone(), x.drop(away), drop(hand, away));
        int come = pick(9);
        due("add(" + come + ")", hand.clone(), x.add(come), add(hand, come));
        for (int question = 0; question < 9; question++) {
            look(x, hand, question, 0);
        }
    }

    public static void main(String[] args) {
        listComplete(new int[9], 0, 11);
        for (int run = 0; run < RUNS; run++) {
            randomRun();
        }
        for (int index = pick(3); index < COMPLETE.size(); index += 3) {
            completeRun(COMPLETE.get(index));
        }
        System.out.println(wrong == 0 ? "all answers are as due" : wrong + " answers are not as due");
        if (wrong != 0) {
            System.exit(1);
        }
    }
}
