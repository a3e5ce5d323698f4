/** A hand of tiles, how far it is from a complete one, what it waits for, and what is best put away. */
public final class TileHands {
    public static final int BAD_ARG = -1;
    public static final int FULL = -2;
    public static final int NONE = -4;

    private static final int KINDS = 9;
    private static final int TILES_OF_A_KIND = 4;
    private static final int HAND_TILES = 11;
    private static final int LAST_TURNED_KIND = 6;
    private static final int MIDDLE_TURNED_KIND = 3;
    private static final int COMPLETE_GROUPS = 3;

    // Sorts of groups: 0 to 8 are three tiles of that kind, 9 to 13 are runs that begin with
    // the kinds 0 to 4, and 14 stands for no group, so that one list holds sets of 0 to 3 groups.
    private static final int FIRST_RUN_SORT = 9;
    private static final int NO_GROUP_SORT = 14;

    // Three of 15 sorts, where a sort may come again and their order makes no difference.
    private static final int GROUP_SETS = 680;
    private static final int GROUP_SET_CELLS = GROUP_SETS * KINDS;

    // 560 of the group sets have three groups, each with 9 pairs: no more complete hands can be.
    private static final int MOST_COMPLETE_HANDS = 560 * KINDS;
    private static final int COMPLETE_CELLS = MOST_COMPLETE_HANDS * KINDS;

    // One bit for each of the 5^9 numbers that hands have, in words of 64 bits.
    private static final int LISTED_WORDS = 30518;

    private final int[] tiles = new int[KINDS];
    private int held = 0;

    // Group set n has its tiles of kind k in cell n * KINDS + k; so have the complete hands.
    private final int[] groupSetTiles = new int[GROUP_SET_CELLS];
    private final int[] groupSetSize = new int[GROUP_SETS];
    private int groupSets = 0;

    private final int[] completeTiles = new int[COMPLETE_CELLS];
    private final long[] listed = new long[LISTED_WORDS];
    private int completeHands = 0;

    public TileHands() {
        listGroupSets();
        listCompleteHands();
    }

    public int add(int kind) {
        if (!isKind(kind)) {
            return BAD_ARG;
        }
        if (tiles[kind] == TILES_OF_A_KIND) {
            return NONE;
        }
        if (held == HAND_TILES) {
            return FULL;
        }
        tiles[kind]++;
        held++;
        return held;
    }

    public int drop(int kind) {
        if (!isKind(kind)) {
            return BAD_ARG;
        }
        if (tiles[kind] == 0) {
            return NONE;
        }
        tiles[kind]--;
        held--;
        return held;
    }

    public int turn() {
        // Only up to the middle: further on, each swap would be undone.
        for (int low = 0; low < MIDDLE_TURNED_KIND; low++) {
            int high = LAST_TURNED_KIND - low;
            int kept = tiles[low];
            tiles[low] = tiles[high];
            tiles[high] = kept;
        }
        return held;
    }

    public int clear() {
        int had = held;
        for (int kind = 0; kind < KINDS; kind++) {
            tiles[kind] = 0;
        }
        held = 0;
        return had;
    }

    public int size() {
        return held;
    }

    public int have(int kind) {
        return isKind(kind) ? tiles[kind] : BAD_ARG;
    }

    public int distance() {
        return leastMissing();
    }

    public int wanted() {
        int least = leastMissing();
        return kindsMissingAt(least);
    }

    public int hope() {
        int least = leastMissing();
        return hopeAt(least);
    }

    public int best() {
        int bestKind = NONE;
        int bestDistance = 0;
        int bestHope = 0;
        for (int kind = 0; kind < KINDS; kind++) {
            if (tiles[kind] > 0) {
                // The tile is away only while the rest is looked at.
                tiles[kind]--;
                int restDistance = leastMissing();
                int restHope = hopeAt(restDistance);
                tiles[kind]++;
                if (bestKind == NONE || restDistance < bestDistance
                        || (restDistance == bestDistance && restHope > bestHope)) {
                    bestKind = kind;
                    bestDistance = restDistance;
                    bestHope = restHope;
                }
            }
        }
        return bestKind;
    }

    public int groups() {
        // A hand of 11 tiles has no room for a fourth group, so sets of up to three are enough.
        int most = 0;
        for (int set = 0; set < GROUP_SETS; set++) {
            if (groupSetSize[set] > most && handHolds(set)) {
                most = groupSetSize[set];
            }
        }
        return most;
    }

    public int ways() {
        int count = 0;
        for (int set = 0; set < GROUP_SETS; set++) {
            if (leavesOnePair(set)) {
                count++;
            }
        }
        return count;
    }

    public int completions() {
        // A complete hand that has all tiles of this one has exactly the tiles that fill it up.
        int count = 0;
        for (int complete = 0; complete < completeHands; complete++) {
            if (missingTo(complete) == HAND_TILES - held) {
                count++;
            }
        }
        return count;
    }

    private boolean isKind(int kind) {
        return kind >= 0 && kind < KINDS;
    }

    private void listGroupSets() {
        // Never a lesser sort after a greater one, so that each set is listed once.
        for (int first = 0; first <= NO_GROUP_SORT; first++) {
            for (int second = first; second <= NO_GROUP_SORT; second++) {
                for (int third = second; third <= NO_GROUP_SORT; third++) {
                    listGroupSet(first, second, third);
                }
            }
        }
    }

    private void listGroupSet(int first, int second, int third) {
        // There is room for every set; so that this need not be taken on trust, it is looked at.
        if (groupSets >= GROUP_SETS) {
            return;
        }
        layGroup(first);
        layGroup(second);
        layGroup(third);
        groupSets++;
    }

    private void layGroup(int sort) {
        if (sort == NO_GROUP_SORT) {
            return;
        }
        groupSetSize[groupSets]++;
        int start = groupSets * KINDS;
        if (sort < FIRST_RUN_SORT) {
            groupSetTiles[start + sort] += 3;
            return;
        }
        int low = start + sort - FIRST_RUN_SORT;
        groupSetTiles[low]++;
        groupSetTiles[low + 1]++;
        groupSetTiles[low + 2]++;
    }

    private void listCompleteHands() {
        for (int set = 0; set < GROUP_SETS; set++) {
            if (groupSetSize[set] == COMPLETE_GROUPS) {
                for (int pair = 0; pair < KINDS; pair++) {
                    listCompleteHand(set, pair);
                }
            }
        }
    }

    private void listCompleteHand(int set, int pair) {
        // As with the group sets, there is room for every hand, and it is looked at all the same.
        if (completeHands >= MOST_COMPLETE_HANDS) {
            return;
        }
        // The tiles are written behind the list's end; they count only if the end then moves.
        int start = completeHands * KINDS;
        int number = 0;
        for (int kind = 0; kind < KINDS; kind++) {
            int count = groupSetTiles[set * KINDS + kind];
            if (kind == pair) {
                count += 2;
            }
            if (count > TILES_OF_A_KIND) {
                return;
            }
            completeTiles[start + kind] = count;
            number = number * (TILES_OF_A_KIND + 1) + count;
        }
        // One hand can often be divided in several ways, and completions counts hands.
        if (markListed(number)) {
            completeHands++;
        }
    }

    /** Answers whether the number had not been marked before. */
    private boolean markListed(int number) {
        int word = number / 64;
        long bit = 1L << (number % 64);
        boolean isNew = (listed[word] & bit) == 0;
        listed[word] |= bit;
        return isNew;
    }

    private int missingTo(int complete) {
        int start = complete * KINDS;
        int missing = 0;
        for (int kind = 0; kind < KINDS; kind++) {
            int more = completeTiles[start + kind] - tiles[kind];
            if (more > 0) {
                missing += more;
            }
        }
        return missing;
    }

    private int leastMissing() {
        int least = HAND_TILES;
        for (int complete = 0; complete < completeHands; complete++) {
            int missing = missingTo(complete);
            if (missing < least) {
                least = missing;
            }
        }
        return least;
    }

    /**
     * The wanted kinds, if least is the distance: one tile takes at most one from what is missing
     * to a complete hand, so the distance falls just by what a nearest complete hand lacks. As no
     * complete hand has five tiles of a kind, the hand then has fewer than four of it.
     */
    private int kindsMissingAt(int least) {
        int kinds = 0;
        for (int complete = 0; complete < completeHands; complete++) {
            if (missingTo(complete) == least) {
                kinds |= kindsMissingTo(complete);
            }
        }
        return kinds;
    }

    private int kindsMissingTo(int complete) {
        int start = complete * KINDS;
        int kinds = 0;
        for (int kind = 0; kind < KINDS; kind++) {
            if (completeTiles[start + kind] > tiles[kind]) {
                kinds |= 1 << kind;
            }
        }
        return kinds;
    }

    private int hopeAt(int least) {
        int kinds = kindsMissingAt(least);
        int sum = 0;
        for (int kind = 0; kind < KINDS; kind++) {
            if ((kinds & (1 << kind)) != 0) {
                sum += TILES_OF_A_KIND - tiles[kind];
            }
        }
        return sum;
    }

    private boolean handHolds(int set) {
        int start = set * KINDS;
        for (int kind = 0; kind < KINDS; kind++) {
            if (groupSetTiles[start + kind] > tiles[kind]) {
                return false;
            }
        }
        return true;
    }

    private boolean leavesOnePair(int set) {
        int start = set * KINDS;
        int pairs = 0;
        for (int kind = 0; kind < KINDS; kind++) {
            int left = tiles[kind] - groupSetTiles[start + kind];
            if (left == 2) {
                pairs++;
            } else if (left != 0) {
                return false;
            }
        }
        return pairs == 1;
    }
}
