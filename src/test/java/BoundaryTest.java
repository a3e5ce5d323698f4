import java.util.Arrays;

// The boundary cases, sentence by sentence: each sentence of the document that names one has a
// test of its own here, with the value at the edge, the one below it and the one above it.
public final class BoundaryTest {
    private static final int BAD_ARG = -1;
    private static final int FULL = -2;
    private static final int NONE = -4;

    private static final int MOST_CALLS = 512;

    // The neighbours of 0 and 8, and numbers that would become a kind if they were cut short.
    private static final int[] NO_KINDS = {-1, 9, -2, 10, -8, -9, 16, 256, 256 + 8, 65536 + 3, -256,
        Integer.MIN_VALUE, Integer.MIN_VALUE + 8, Integer.MAX_VALUE, Integer.MAX_VALUE - 8};

    private static final String[] CALLS = {"add", "drop", "turn", "clear", "size", "have", "distance", "wanted",
        "hope", "best", "groups", "ways", "completions"};

    private static final String[] QUESTIONS = {"size", "have", "distance", "wanted", "hope", "best", "groups", "ways",
        "completions"};

    // Empty, one tile, four of a kind, 10 tiles, and full: complete, not complete, without a group.
    private static final String[] STATES = {"", "0", "8", "0000", "8888", "0001112223", "00011122233",
        "00001111222", "77778888666", "00113344667"};

    private static int wrong = 0;
    private static String sentence = "";

    private static void fail(String what) {
        wrong++;
        System.out.println(sentence + "\n    " + what);
    }

    private static void due(String what, int got, int want) {
        if (got != want) {
            fail(what + " answered " + got + ", due is " + want);
        }
    }

    private static void check(String words, Runnable test) {
        sentence = words;
        try {
            test.run();
        } catch (RuntimeException | Error thrown) {
            fail("threw " + thrown);
        }
    }

    /** A hand with the tiles whose kinds are the digits. */
    private static TileHands hand(String digits) {
        TileHands hand = new TileHands();
        for (char digit : digits.toCharArray()) {
            hand.add(digit - '0');
        }
        return hand;
    }

    private static String named(String digits) {
        return digits.isEmpty() ? "the empty hand" : "hand " + digits;
    }

    private static int call(TileHands hand, String call, int kind) {
        return switch (call) {
            case "add" -> hand.add(kind);
            case "drop" -> hand.drop(kind);
            case "turn" -> hand.turn();
            case "clear" -> hand.clear();
            case "size" -> hand.size();
            case "have" -> hand.have(kind);
            case "distance" -> hand.distance();
            case "wanted" -> hand.wanted();
            case "hope" -> hand.hope();
            case "best" -> hand.best();
            case "groups" -> hand.groups();
            case "ways" -> hand.ways();
            default -> hand.completions();
        };
    }

    private static void answers(String digits, String call, int want) {
        due(named(digits) + ": " + call + "()", call(hand(digits), call, 0), want);
    }

    private static int countOf(String digits, int kind) {
        return (int) digits.chars().filter(digit -> digit - '0' == kind).count();
    }

    private static void holds(String what, TileHands hand, String digits) {
        due(what + ", then size()", hand.size(), digits.length());
        for (int kind = 0; kind < 9; kind++) {
            due(what + ", then have(" + kind + ")", hand.have(kind), countOf(digits, kind));
        }
    }

    private static int[] allAnswers(TileHands hand) {
        int[] all = new int[17];
        for (int kind = 0; kind < 9; kind++) {
            all[kind] = hand.have(kind);
        }
        int next = 9;
        for (String question : QUESTIONS) {
            if (!question.equals("have")) {
                all[next] = call(hand, question, 0);
                next++;
            }
        }
        return all;
    }

    private static void sameAnswers(String what, TileHands hand, TileHands twin) {
        int[] got = allAnswers(hand);
        int[] want = allAnswers(twin);
        if (!Arrays.equals(got, want)) {
            fail(what + " answers " + Arrays.toString(got) + ", due is " + Arrays.toString(want));
        }
    }

    /** The hand is as a new one that was given the same tiles: now, and in what later calls do. */
    private static void isLike(String what, TileHands hand, String digits) {
        TileHands twin = hand(digits);
        holds(what, hand, digits);
        sameAnswers(what, hand, twin);
        for (int kind = 0; kind < 9; kind++) {
            due(what + ", then add(" + kind + ")", hand.add(kind), twin.add(kind));
        }
        sameAnswers(what + ", then adds", hand, twin);
        due(what + ", then turn()", hand.turn(), twin.turn());
        for (int kind = 0; kind < 9; kind++) {
            due(what + ", then drop(" + kind + ")", hand.drop(kind), twin.drop(kind));
        }
        sameAnswers(what + ", then drops", hand, twin);
        due(what + ", then clear()", hand.clear(), twin.clear());
        sameAnswers(what + ", then cleared", hand, twin);
    }

    private static void refused(String digits, String call, int kind, int code) {
        TileHands hand = hand(digits);
        String what = named(digits) + ": " + call + "(" + kind + ")";
        due(what, call(hand, call, kind), code);
        due(what + " again", call(hand, call, kind), code);
        isLike(what, hand, digits);
    }

    // ---- What it is

    /** An object that has had so many calls in all, and has the tiles of the digits. */
    private static TileHands used(String digits, int calls, String filler, int kind) {
        TileHands hand = hand(digits);
        for (int made = digits.length(); made < calls; made++) {
            call(hand, filler, kind);
        }
        return hand;
    }

    private static void theLast(String digits, String filler, int kind) {
        for (String last : CALLS) {
            TileHands hand = used(digits, MOST_CALLS - 2, filler, kind);
            TileHands twin = hand(digits);
            String what = named(digits) + " after " + filler + " up to the 510th call: " + last + "(2) as ";
            due(what + "511th", call(hand, last, 2), call(twin, last, 2));
            due(what + "512th", call(hand, last, 2), call(twin, last, 2));
        }
    }

    private static void theLastCalls() {
        theLast("0001112223", "size", 0);
        theLast("0001112223", "add", 9);
        theLast("0001112223", "drop", 8);
        theLast("00011122278", "add", 2);
        // An even number of turns leaves the hand as it was.
        theLast("0001112223", "turn", 0);
        theLast("", "clear", 0);
        theLast("8", "best", 0);
    }

    private static void everyCallUpToTheLast() {
        TileHands hand = new TileHands();
        int size = 0;
        boolean isFilling = true;
        for (int made = 1; made <= MOST_CALLS; made++) {
            size += isFilling ? 1 : -1;
            int kind = (isFilling ? size - 1 : size) / 4;
            due("call " + made, isFilling ? hand.add(kind) : hand.drop(kind), size);
            if (size == 11 || size == 0) {
                isFilling = !isFilling;
            }
        }
    }

    private static void callsAfterTheLast() {
        for (String late : CALLS) {
            for (String digits : STATES) {
                TileHands hand = used(digits, MOST_CALLS, "size", 0);
                // Only that each comes back: what it answers is free.
                for (int kind = -1; kind <= 9; kind++) {
                    call(hand, late, kind);
                }
                call(hand, late, Integer.MIN_VALUE);
                call(hand, late, Integer.MAX_VALUE);
            }
        }
    }

    private static void longAfterTheLast() {
        TileHands hand = new TileHands();
        for (int made = 0; made < 20 * MOST_CALLS; made++) {
            // 13 calls and the 11 numbers -1 to 9: each call comes with each number.
            call(hand, CALLS[made % CALLS.length], made % 11 - 1);
            call(hand, "add", made % 9);
        }
    }

    // ---- The public face

    private static void constants() {
        due("BAD_ARG", TileHands.BAD_ARG, BAD_ARG);
        due("FULL", TileHands.FULL, FULL);
        due("NONE", TileHands.NONE, NONE);
    }

    // ---- Terms

    private static void kinds() {
        for (int kind = 0; kind <= 8; kind++) {
            TileHands hand = new TileHands();
            due("have(" + kind + ")", hand.have(kind), 0);
            due("add(" + kind + ")", hand.add(kind), 1);
            holds("add(" + kind + ")", hand, "" + kind);
            due("drop(" + kind + ")", hand.drop(kind), 0);
            holds("drop(" + kind + ")", hand, "");
        }
        for (int kind : new int[] {-1, 9}) {
            TileHands hand = new TileHands();
            due("have(" + kind + ")", hand.have(kind), BAD_ARG);
            due("add(" + kind + ")", hand.add(kind), BAD_ARG);
            due("drop(" + kind + ")", hand.drop(kind), BAD_ARG);
        }
    }

    private static void fourOfEach() {
        for (int kind = 0; kind <= 8; kind++) {
            TileHands hand = new TileHands();
            for (int count = 1; count <= 4; count++) {
                due("tile " + count + " of kind " + kind, hand.add(kind), count);
            }
            due("tile 5 of kind " + kind, hand.add(kind), NONE);
            due("have(" + kind + ")", hand.have(kind), 4);
            due("drop(" + kind + ")", hand.drop(kind), 3);
            due("tile 4 of kind " + kind + " again", hand.add(kind), 4);
            due("tile 5 of kind " + kind + " again", hand.add(kind), NONE);
        }
    }

    private static void atMostElevenTiles() {
        for (String ten : new String[] {"0000111122", "0123456780", "7777888866", "0011334466"}) {
            TileHands hand = hand(ten);
            due(named(ten) + ": size()", hand.size(), 10);
            due(named(ten) + ": add(5)", hand.add(5), 11);
            due(named(ten) + ": add(5), add(5)", hand.add(5), FULL);
            due(named(ten) + ": add(5), add(5), size()", hand.size(), 11);
            due(named(ten) + ": add(5), add(5), drop(5)", hand.drop(5), 10);
            due(named(ten) + ": add(5), add(5), drop(5), add(5)", hand.add(5), 11);
        }
    }

    private static void groupsOfOneKind() {
        for (int kind = 0; kind <= 8; kind++) {
            String tile = "" + kind;
            answers(tile, "groups", 0);
            answers(tile.repeat(2), "groups", 0);
            answers(tile.repeat(3), "groups", 1);
            answers(tile.repeat(4), "groups", 1);
        }
    }

    private static void groupsOfThreeKinds() {
        answers("012", "groups", 1);
        answers("123", "groups", 1);
        answers("234", "groups", 1);
        answers("345", "groups", 1);
        answers("456", "groups", 1);
        answers("567", "groups", 0);
        answers("678", "groups", 0);
        // No kind comes after 8, and the row does not begin again.
        answers("780", "groups", 0);
        answers("801", "groups", 0);
        // Two of the three are not enough, and no kind may be left out.
        answers("01", "groups", 0);
        answers("12", "groups", 0);
        answers("013", "groups", 0);
        answers("023", "groups", 0);
        answers("024", "groups", 0);
        answers("46", "groups", 0);
    }

    /** Two groups of one kind and a pair beside three tiles that are a group or not. */
    private static void besideThreeKinds(String digits, int distance, int ways, int completions) {
        answers(digits, "distance", distance);
        answers(digits, "ways", ways);
        answers(digits, "completions", completions);
    }

    private static void completeWithThreeKinds() {
        besideThreeKinds("01233444555", 0, 1, 1);
        besideThreeKinds("12300444555", 0, 1, 1);
        besideThreeKinds("23400111555", 0, 1, 1);
        besideThreeKinds("34500111222", 0, 1, 1);
        besideThreeKinds("45600111222", 0, 1, 1);
        besideThreeKinds("56700111222", 1, 0, 0);
        besideThreeKinds("67800111222", 2, 0, 0);
        besideThreeKinds("78011222333", 2, 0, 0);
        besideThreeKinds("80122333444", 1, 0, 0);
        // Of 5, 6 and 7 only 5 and 6 are of use, with a 4.
        answers("56700111222", "wanted", 1 << 4);
    }

    private static void pairs() {
        for (int kind = 0; kind <= 8; kind++) {
            String tile = "" + kind;
            answers(tile, "ways", 0);
            answers(tile.repeat(2), "ways", 1);
            answers(tile.repeat(3), "ways", 0);
            answers(tile.repeat(4), "ways", 0);
            answers(tile + (kind + 1) % 9, "ways", 0);
        }
    }

    private static void complete() {
        answers("00011122288", "distance", 0);
        // A tile less, three groups alone, and two groups with one pair.
        answers("0001112228", "distance", 1);
        answers("000111222", "distance", 2);
        answers("00011122", "distance", 3);
        answers("00", "distance", 9);
        // 11 tiles with two tiles that are no pair, with two groups, and without a group.
        answers("00011122278", "distance", 1);
        answers("00111222678", "distance", 2);
        answers("00113344667", "distance", 3);
    }

    private static void completeHasAtMostFour() {
        // 7 and 8 are in no group of three kinds: with a pair beside three of them it would be five.
        answers("777", "completions", 560);
        answers("7777", "completions", 0);
        answers("7777", "distance", 8);
        answers("8888", "completions", 0);
        answers("8888", "distance", 8);
        answers("0001117777", "distance", 2);
        answers("0001117777", "completions", 0);
        answers("0000555888", "distance", 2);
        // Four are allowed, in two groups or in a group and a pair.
        answers("0000", "completions", 97);
        answers("6666", "distance", 7);
        answers("00001233388", "distance", 0);
        answers("00001122333", "distance", 0);
        answers("", "completions", 2792);
    }

    private static void distanceCountsOnlyWhereMore() {
        // What the hand has too much does not make up for what it lacks.
        answers("00011122278", "distance", 1);
        answers("77778888", "distance", 5);
        answers("77778888666", "distance", 2);
        answers("00001113678", "distance", 3);
    }

    private static void wantedBelowFour() {
        // Three of 0 and three of 3: a fourth makes 0, 1, 2 or 1, 2, 3 whole.
        answers("0001233388", "wanted", 1 << 0 | 1 << 3 | 1 << 8);
        answers("3444556888", "wanted", 1 << 4);
        for (int kind = 0; kind <= 8; kind++) {
            answers(("" + kind).repeat(4), "wanted", 511 - (1 << kind));
        }
        // A fifth 7 would be the pair, but there is none.
        answers("0001117777", "wanted", 511 - (1 << 7));
        answers("00001113678", "wanted", 511 - (1 << 0));
        // Fewer than four and yet not wanted: the distance would stay.
        answers("777", "wanted", 511 - (1 << 7));
        answers("0001112228", "wanted", 1 << 8);
    }

    private static void wantedAsTwelfthTile() {
        answers("0001112227", "wanted", 1 << 7);
        answers("00011122278", "wanted", 1 << 7 | 1 << 8);
        answers("56700111222", "wanted", 1 << 4);
        answers("00113344667", "wanted", 127);
        answers("00011128888", "wanted", 15);
        // No distance is less than 0.
        answers("00011122288", "wanted", 0);
    }

    private static void hopeCountsWhatIsLeft() {
        answers("", "hope", 36);
        answers("0", "hope", 35);
        // One wanted kind, of which the hand has three, one and none.
        answers("3444556888", "hope", 1);
        answers("0001112228", "hope", 3);
        answers("56700111222", "hope", 4);
        // A kind of which the hand has four adds nothing.
        answers("0000", "hope", 32);
        answers("00001113678", "hope", 25);
        answers("00011122288", "hope", 0);
    }

    private static void neverThrows() {
        for (String digits : STATES) {
            for (String call : CALLS) {
                for (int kind : NO_KINDS) {
                    call(hand(digits), call, kind);
                }
                for (int kind = 0; kind <= 8; kind++) {
                    call(hand(digits), call, kind);
                }
            }
        }
    }

    private static void refusedChangesNothing() {
        for (String digits : STATES) {
            for (int kind : new int[] {-1, 9, Integer.MIN_VALUE, Integer.MAX_VALUE}) {
                refused(digits, "add", kind, BAD_ARG);
                refused(digits, "drop", kind, BAD_ARG);
                refused(digits, "have", kind, BAD_ARG);
            }
            for (int kind = 0; kind <= 8; kind++) {
                int count = countOf(digits, kind);
                if (count == 4) {
                    refused(digits, "add", kind, NONE);
                } else if (digits.length() == 11) {
                    refused(digits, "add", kind, FULL);
                }
                if (count == 0) {
                    refused(digits, "drop", kind, NONE);
                }
            }
        }
        refused("", "best", 0, NONE);
    }

    private static void refusedManyTimes() {
        TileHands hand = hand("00001111222");
        for (int time = 0; time < 80; time++) {
            due("add(9)", hand.add(9), BAD_ARG);
            due("add(0)", hand.add(0), NONE);
            due("add(2)", hand.add(2), FULL);
            due("drop(-1)", hand.drop(-1), BAD_ARG);
            due("drop(8)", hand.drop(8), NONE);
        }
        isLike("400 refused calls", hand, "00001111222");
    }

    // ---- Promise 1

    private static void newIsEmpty() {
        TileHands hand = new TileHands();
        int[] want = {0, 0, 0, 0, 0, 0, 0, 0, 0, 0, 11, 511, 36, NONE, 0, 0, 2792};
        int[] got = allAnswers(hand);
        if (!Arrays.equals(got, want)) {
            fail("a new object answers " + Arrays.toString(got) + ", due is " + Arrays.toString(want));
        }
        due("clear()", hand.clear(), 0);
        due("turn()", hand.turn(), 0);
        for (int kind = 0; kind <= 8; kind++) {
            due("drop(" + kind + ")", hand.drop(kind), NONE);
        }
    }

    private static void newStandsAlone() {
        TileHands full = hand("00001111222");
        TileHands fresh = new TileHands();
        due("add(0) beside a full hand", fresh.add(0), 1);
        full.clear();
        holds("the other one was cleared", fresh, "0");
    }

    // ---- Promise 2

    private static void addBadKind() {
        for (int kind : NO_KINDS) {
            refused("", "add", kind, BAD_ARG);
            refused("0123456788", "add", kind, BAD_ARG);
        }
        due("add(0)", hand("").add(0), 1);
        due("add(8)", hand("").add(8), 1);
    }

    private static void addFifth() {
        for (int kind = 0; kind <= 8; kind++) {
            String tile = "" + kind;
            due("a fourth " + kind, hand(tile.repeat(3)).add(kind), 4);
            refused(tile.repeat(4), "add", kind, NONE);
        }
        // Four of one kind do not stand in the way of another one.
        due("0000, add(1)", hand("0000").add(1), 5);
        due("8888, add(7)", hand("8888").add(7), 5);
    }

    private static void addToFull() {
        for (int kind = 3; kind <= 8; kind++) {
            due("10 tiles, add(" + kind + ")", hand("0000111122").add(kind), 11);
            refused("00001111222", "add", kind, FULL);
        }
        // Three of it, in a full hand: one below four.
        refused("00001111222", "add", 2, FULL);
        refused("01234567800", "add", 0, FULL);
    }

    private static void addOrder() {
        // No kind, and full.
        refused("00001111222", "add", -1, BAD_ARG);
        refused("00001111222", "add", 9, BAD_ARG);
        // No kind, beside kinds of which there are four.
        refused("0000", "add", -1, BAD_ARG);
        refused("8888", "add", 9, BAD_ARG);
        // Four of it, and full.
        refused("00001111222", "add", 0, NONE);
        refused("00001111222", "add", 1, NONE);
        refused("77778888666", "add", 8, NONE);
    }

    private static void addAnswersSize() {
        TileHands hand = new TileHands();
        int size = 0;
        for (char digit : "80808080123".toCharArray()) {
            size++;
            due("add(" + digit + ")", hand.add(digit - '0'), size);
        }
        holds("11 adds", hand, "80808080123");
    }

    // ---- Promise 3

    private static void dropBadKind() {
        for (int kind : NO_KINDS) {
            refused("00113344667", "drop", kind, BAD_ARG);
        }
        due("drop(0)", hand("08").drop(0), 1);
        due("drop(8)", hand("08").drop(8), 1);
    }

    private static void dropNone() {
        for (int kind = 0; kind <= 8; kind++) {
            refused("", "drop", kind, NONE);
            TileHands hand = hand("" + kind);
            due("one of it: drop(" + kind + ")", hand.drop(kind), 0);
            due("no more of it: drop(" + kind + ")", hand.drop(kind), NONE);
            isLike("drop(" + kind + ") twice", hand, "");
        }
        refused("00001111222", "drop", 3, NONE);
        refused("77778888666", "drop", 0, NONE);
        refused("0012", "drop", 8, NONE);
    }

    private static void dropOrder() {
        // The empty hand has none of any kind, and what is no kind is none of it either.
        for (int kind : NO_KINDS) {
            refused("", "drop", kind, BAD_ARG);
        }
    }

    private static void dropAnswersSize() {
        String digits = "80808080123";
        TileHands hand = hand(digits);
        for (int left = 10; left >= 0; left--) {
            char digit = digits.charAt(left);
            due("drop(" + digit + ")", hand.drop(digit - '0'), left);
            holds("drop(" + digit + ")", hand, digits.substring(0, left));
        }
        due("empty: drop(8)", hand.drop(8), NONE);
    }

    // ---- Promise 4

    private static void turned(String digits, String want) {
        TileHands hand = hand(digits);
        due(named(digits) + ": turn()", hand.turn(), digits.length());
        isLike(named(digits) + ": turn()", hand, want);
    }

    private static void turnEachKind() {
        turned("0", "6");
        turned("1", "5");
        turned("2", "4");
        turned("3", "3");
        turned("4", "2");
        turned("5", "1");
        turned("6", "0");
    }

    private static void turnLeavesSevenAndEight() {
        turned("7", "7");
        turned("8", "8");
        turned("77778", "77778");
        turned("67", "07");
        turned("78888", "78888");
    }

    private static void turnAtTheSameTime() {
        // One after the other, the tiles of 0 would come to 6 and go back with those of 6.
        turned("000066", "666600");
        turned("0666", "6000");
        turned("00001111456", "66665555210");
        turned("00006666", "66660000");
        turned("112555", "554111");
    }

    private static void turnAnswersSize() {
        turned("", "");
        turned("0123456788", "0123456788");
        turned("00001122357", "66665544317");
        TileHands hand = hand("00001122357");
        due("turn()", hand.turn(), 11);
        due("turn() again", hand.turn(), 11);
        isLike("turned twice", hand, "00001122357");
    }

    // ---- Promise 5

    private static void clearAnswersAndEmpties() {
        for (String digits : STATES) {
            TileHands hand = hand(digits);
            due(named(digits) + ": clear()", hand.clear(), digits.length());
            due(named(digits) + ": clear(), clear()", hand.clear(), 0);
            isLike(named(digits) + ": clear()", hand, "");
        }
        TileHands hand = hand("00001111222");
        hand.clear();
        for (int size = 1; size <= 11; size++) {
            due("cleared, then filled again", hand.add(8 - (size - 1) / 4), size);
        }
        due("full again", hand.clear(), 11);
    }

    // ---- Promise 6

    private static void sizeFromNoneToEleven() {
        String digits = "01234567801";
        for (int size = 0; size <= 11; size++) {
            answers(digits.substring(0, size), "size", size);
        }
        TileHands hand = hand(digits);
        hand.add(5);
        due("full: add(5), size()", hand.size(), 11);
        hand.clear();
        hand.drop(5);
        due("empty: drop(5), size()", hand.size(), 0);
    }

    // ---- Promise 7

    private static void haveFromNoneToFour() {
        for (int kind = 0; kind <= 8; kind++) {
            TileHands hand = new TileHands();
            for (int count = 0; count <= 4; count++) {
                due("have(" + kind + ")", hand.have(kind), count);
                due("have of the next one", hand.have((kind + 1) % 9), 0);
                hand.add(kind);
            }
            due("have(" + kind + ") after a fifth", hand.have(kind), 4);
        }
    }

    private static void haveBadKind() {
        for (String digits : new String[] {"", "00113344667", "77778888666"}) {
            for (int kind : NO_KINDS) {
                refused(digits, "have", kind, BAD_ARG);
            }
        }
    }

    // ---- Promise 8

    private static void distanceFromElevenToNone() {
        String complete = "00011122288";
        for (int size = 0; size <= 11; size++) {
            answers(complete.substring(0, size), "distance", 11 - size);
        }
        // The greatest that 10 and 11 tiles can have.
        answers("0223355678", "distance", 4);
        answers("00113344667", "distance", 3);
    }

    // ---- Promise 9

    private static void wantedFromNoneToAll() {
        answers("00011122288", "wanted", 0);
        answers("", "wanted", 511);
        answers("0223355678", "wanted", 511);
        // The least and the greatest kind alone.
        answers("0444555666", "wanted", 1);
        answers("0001112228", "wanted", 256);
    }

    // ---- Promise 10

    private static void hopeFromNoneToAll() {
        answers("00011122288", "hope", 0);
        answers("3444556888", "hope", 1);
        answers("000", "hope", 33);
        answers("777", "hope", 32);
        answers("", "hope", 36);
        // Full, and a twelfth tile is wanted.
        answers("00011122278", "hope", 6);
    }

    // ---- Promise 11

    private static void bestOfNone() {
        refused("", "best", 0, NONE);
        TileHands hand = hand("8");
        hand.drop(8);
        due("the last one dropped: best()", hand.best(), NONE);
        hand = hand("00001111222");
        hand.clear();
        due("cleared: best()", hand.best(), NONE);
        for (int kind = 0; kind <= 8; kind++) {
            answers("" + kind, "best", kind);
            answers(("" + kind).repeat(4), "best", kind);
        }
    }

    private static void bestHasLeastDistance() {
        // Without a 0 the hope would be greater, 12 and not 3, but the distance too.
        answers("00011122278", "best", 7);
        answers("00111222567", "best", 7);
        answers("0001117777", "best", 7);
        answers("01223334448", "best", 8);
    }

    private static void bestHasGreatestHope() {
        // Each leaves distance 1; without 3 the hope is 10, without 0, 1 and 2 it is 4, 9 and 9.
        answers("00011122233", "best", 3);
        // Each leaves distance 1; hopes 5, 8, 5, 8, 7, 11.
        answers("00111222345", "best", 5);
        // Without 0, 3, 6, 7 and 8 the distance is 3; the hopes are 6, 6, 6, 24, 24.
        answers("012345678", "best", 7);
        answers("00113344667", "best", 7);
    }

    private static void bestIsLeastKind() {
        answers("678", "best", 6);
        answers("780", "best", 0);
        answers("77778888", "best", 7);
        // 2, 3 and 5 leave the same distance and hope, 0 a lesser hope.
        answers("0223355678", "best", 2);
        // 0 and 3 leave the same, and so do 1 and 5 in the full hand.
        answers("0001112223", "best", 0);
        answers("00012345666", "best", 1);
    }

    // ---- Promise 12

    private static void groupsFromNoneToThree() {
        answers("", "groups", 0);
        answers("00113344667", "groups", 0);
        answers("00", "groups", 0);
        answers("000", "groups", 1);
        answers("00011", "groups", 1);
        answers("000111", "groups", 2);
        answers("00011122", "groups", 2);
        answers("000111222", "groups", 3);
        answers("012012012", "groups", 3);
        // Full hands have no room for a fourth one.
        answers("00011122233", "groups", 3);
        answers("00001111222", "groups", 3);
        answers("77778888666", "groups", 3);
    }

    private static void groupsAtTheSameTime() {
        // A tile is in one group only.
        answers("00012", "groups", 1);
        answers("000012", "groups", 2);
        answers("01234", "groups", 1);
        answers("012345", "groups", 2);
        answers("00112", "groups", 1);
        answers("001122", "groups", 2);
    }

    private static void groupsTheGreatest() {
        // Who takes three of a kind first finds one group only.
        answers("0111223", "groups", 2);
        answers("0001122", "groups", 2);
        answers("0122234", "groups", 2);
        // Who takes the lowest row of kinds first finds one group only.
        answers("000123", "groups", 2);
        answers("444321", "groups", 2);
        // One tile less, and there is no second group.
        answers("012223", "groups", 1);
        answers("00123", "groups", 1);
    }

    // ---- Promise 13

    private static void waysByNumberOfTiles() {
        answers("", "ways", 0);
        answers("0", "ways", 0);
        answers("00", "ways", 1);
        answers("000", "ways", 0);
        answers("0001", "ways", 0);
        answers("00011", "ways", 1);
        answers("000111", "ways", 0);
        answers("0001112", "ways", 0);
        answers("00011122", "ways", 1);
        answers("000111222", "ways", 0);
        answers("0001112228", "ways", 0);
        answers("00011122288", "ways", 2);
    }

    private static void waysWithoutTileLeft() {
        answers("00012", "ways", 1);
        answers("00013", "ways", 0);
        answers("00111", "ways", 1);
        answers("0111", "ways", 0);
        answers("001", "ways", 0);
        answers("00011122278", "ways", 0);
        answers("66678", "ways", 0);
        answers("44456", "ways", 1);
    }

    private static void waysWithOnePair() {
        // Groups without a pair, two pairs, three, and four of one kind.
        answers("012", "ways", 0);
        answers("001122", "ways", 0);
        answers("0011", "ways", 0);
        answers("0000", "ways", 0);
        answers("77778888", "ways", 0);
        answers("00113344", "ways", 0);
        answers("01234500", "ways", 1);
        answers("00011333", "ways", 1);
    }

    private static void waysByKindsAlone() {
        // Any of the four tiles of 0 could stand with 1 and 2: that is one way.
        answers("00001233", "ways", 1);
        answers("00012", "ways", 1);
        answers("00001111222", "ways", 1);
        // The same two groups in another order are one way.
        answers("00111222", "ways", 1);
        answers("01201288", "ways", 1);
    }

    private static void waysMany() {
        answers("00112233", "ways", 2);
        answers("00001122333", "ways", 2);
        answers("00012345666", "ways", 2);
        answers("00011122233", "ways", 3);
        answers("33444555666", "ways", 3);
        // 7 and 8 are in no run: three and three and three are one way only.
        answers("66677788855", "ways", 1);
    }

    private static void waysOfTwoTiles() {
        for (int kind = 0; kind <= 8; kind++) {
            for (int other = kind; other <= 8; other++) {
                answers("" + kind + other, "ways", kind == other ? 1 : 0);
            }
        }
    }

    // ---- Promise 14

    private static void completionsFromNoneToAll() {
        answers("", "completions", 2792);
        answers("0", "completions", 1364);
        answers("8", "completions", 880);
        answers("0001112228", "completions", 1);
        answers("00011122288", "completions", 1);
        answers("00011122278", "completions", 0);
        answers("00001111222", "completions", 1);
    }

    private static void completionsHaveAllTiles() {
        // 8 tiles at distance 5 and 10 at distance 2: the nearest complete hands leave tiles out.
        answers("77778888", "completions", 0);
        answers("0001117777", "completions", 0);
        answers("777888", "completions", 77);
        answers("7777", "completions", 0);
        answers("012345678", "completions", 0);
        answers("678", "completions", 67);
    }

    private static void completionsAreDifferent() {
        // Hands that can be divided in several ways are one each.
        answers("00011122233", "completions", 1);
        answers("0001112223", "completions", 5);
        answers("000111222", "completions", 13);
        answers("00112233", "completions", 33);
    }

    // ---- Not promised

    private static void changesNothing(String question) {
        for (String digits : STATES) {
            TileHands hand = hand(digits);
            int first = call(hand, question, 0);
            due(named(digits) + ": " + question + "(), again", call(hand, question, 0), first);
            isLike(named(digits) + ": " + question + "()", hand, digits);
        }
    }

    private static void questionsChangeNothing() {
        for (String question : QUESTIONS) {
            changesNothing(question);
        }
    }

    private static void sameCallsSameAnswers() {
        TileHands one = new TileHands();
        TileHands other = new TileHands();
        // Only the first one is asked in between; the 17 answers at the end are of the 512 calls, too.
        for (int made = 0; made < (MOST_CALLS - 17) / 2; made++) {
            int kind = made * 7 % 9;
            String change = made % 5 == 4 ? "drop" : made % 31 == 30 ? "turn" : made % 67 == 66 ? "clear" : "add";
            due("change " + made + ", " + change + "(" + kind + ")", call(one, change, kind),
                    call(other, change, kind));
            call(one, QUESTIONS[made % QUESTIONS.length], kind);
        }
        sameAnswers("an object that was asked a question after each change", one, other);
    }

    private static void terms() {
        check("What it is: \"An object is used for at most 512 calls after it has been made\"",
                BoundaryTest::theLastCalls);
        check("What it is: \"An object is used for at most 512 calls\", each of them",
                BoundaryTest::everyCallUpToTheLast);
        check("What it is: \"what later calls answer is free\", and LANGUAGE.md 7",
                BoundaryTest::callsAfterTheLast);
        check("Terms: \"BAD_ARG = -1\", \"FULL = -2\", \"NONE = -4\"", BoundaryTest::constants);
        check("Terms: \"There are 9 KINDS of tiles, 0 to 8\"", BoundaryTest::kinds);
        check("Terms: \"and four tiles of each\"", BoundaryTest::fourOfEach);
        check("Terms: \"A HAND has at most 11 tiles.\"", BoundaryTest::atMostElevenTiles);
        check("Terms: \"A GROUP is three tiles of one kind\"", BoundaryTest::groupsOfOneKind);
        check("Terms: \"k from 0 to 4 (kinds 7 and 8 are in no such one)\"", BoundaryTest::groupsOfThreeKinds);
        check("Terms: \"k from 0 to 4 (kinds 7 and 8 are in no such one)\", in full hands",
                BoundaryTest::completeWithThreeKinds);
        check("Terms: \"A PAIR is two tiles of one kind.\"", BoundaryTest::pairs);
        check("Terms: \"A hand of 11 tiles is COMPLETE if it can be divided into three groups and one pair.\"",
                BoundaryTest::complete);
        check("Terms: \"(A complete hand has at most four tiles of a kind, as every hand.)\"",
                BoundaryTest::completeHasAtMostFour);
        check("Terms: \"how many tiles more of the kind the complete hand has than the hand, where it has more\"",
                BoundaryTest::distanceCountsOnlyWhereMore);
        check("Terms: \"A kind is WANTED if the hand has fewer than four tiles of it\"",
                BoundaryTest::wantedBelowFour);
        check("Terms: \"would have a lesser distance (also if that would be 12 tiles)\"",
                BoundaryTest::wantedAsTwelfthTile);
        check("Terms: \"4 less the number of tiles of that kind that the hand has\"",
                BoundaryTest::hopeCountsWhatIsLeft);
        check("Terms: \"No call ever throws.\"", BoundaryTest::neverThrows);
        check("Terms: \"A refused call answers the code named and changes nothing.\"",
                BoundaryTest::refusedChangesNothing);
        check("Terms: \"A refused call answers the code named and changes nothing.\", many times",
                BoundaryTest::refusedManyTimes);
    }

    private static void changes() {
        check("Promise 1: \"The hand is empty.\"", BoundaryTest::newIsEmpty);
        check("Promise 1: a new object, beside another one", BoundaryTest::newStandsAlone);
        check("Promise 2: \"kind not 0 to 8 answers BAD_ARG\"", BoundaryTest::addBadKind);
        check("Promise 2: \"the hand has four of it answers NONE\"", BoundaryTest::addFifth);
        check("Promise 2: \"FULL\"", BoundaryTest::addToFull);
        check("Promise 2: \"Tested in this order\"", BoundaryTest::addOrder);
        check("Promise 2: \"Otherwise how many tiles the hand has.\"", BoundaryTest::addAnswersSize);
        check("Promise 3: \"kind not 0 to 8 answers BAD_ARG\"", BoundaryTest::dropBadKind);
        check("Promise 3: \"the hand has none of it answers NONE\"", BoundaryTest::dropNone);
        check("Promise 3: \"Tested in this order\"", BoundaryTest::dropOrder);
        check("Promise 3: \"Otherwise how many tiles the hand has.\"", BoundaryTest::dropAnswersSize);
        check("Promise 4: \"Each tile of a kind k from 0 to 6 becomes one of kind 6 - k\"",
                BoundaryTest::turnEachKind);
        check("Promise 4: \"a kind k from 0 to 6\", and none of 7 and 8", BoundaryTest::turnLeavesSevenAndEight);
        check("Promise 4: \"all at the same time\"", BoundaryTest::turnAtTheSameTime);
        check("Promise 4: \"Answers how many tiles the hand has.\"", BoundaryTest::turnAnswersSize);
        check("Promise 5: \"The hand becomes empty; answers how many tiles it had.\"",
                BoundaryTest::clearAnswersAndEmpties);
    }

    private static void questions() {
        check("Promise 6: \"How many tiles the hand has.\"", BoundaryTest::sizeFromNoneToEleven);
        check("Promise 7: \"How many tiles of this kind the hand has\"", BoundaryTest::haveFromNoneToFour);
        check("Promise 7: \"BAD_ARG if kind is not 0 to 8\"", BoundaryTest::haveBadKind);
        check("Promise 8: \"The distance of the hand.\"", BoundaryTest::distanceFromElevenToNone);
        check("Promise 9: \"The set of wanted kinds (sum of 2^k).\"", BoundaryTest::wantedFromNoneToAll);
        check("Promise 10: \"The hope of the hand.\"", BoundaryTest::hopeFromNoneToAll);
        check("Promise 11: \"NONE if the hand is empty.\"", BoundaryTest::bestOfNone);
        check("Promise 11: \"the one without which the hand has the least distance\"",
                BoundaryTest::bestHasLeastDistance);
        check("Promise 11: \"of several, the one without which the hope is greatest\"",
                BoundaryTest::bestHasGreatestHope);
        check("Promise 11: \"of several, the least kind\"", BoundaryTest::bestIsLeastKind);
        check("Promise 12: \"The greatest number of groups\", from none to three",
                BoundaryTest::groupsFromNoneToThree);
        check("Promise 12: \"that can be taken from the hand at the same time\"",
                BoundaryTest::groupsAtTheSameTime);
        check("Promise 12: \"The greatest number of groups\"", BoundaryTest::groupsTheGreatest);
        check("Promise 13: \"0 if it can't.\", by the number of tiles", BoundaryTest::waysByNumberOfTiles);
        check("Promise 13: \"without a tile left\"", BoundaryTest::waysWithoutTileLeft);
        check("Promise 13: \"into groups and one pair\"", BoundaryTest::waysWithOnePair);
        check("Promise 13: \"which tiles of a kind stand where makes no difference\"",
                BoundaryTest::waysByKindsAlone);
        check("Promise 13: \"In how many ways\"", BoundaryTest::waysMany);
        check("Promise 13: \"2 tiles are one way if they are a pair\"", BoundaryTest::waysOfTwoTiles);
        check("Promise 14: \"How many different complete hands there are\", from all to none",
                BoundaryTest::completionsFromNoneToAll);
        check("Promise 14: \"that have all tiles of the hand\"", BoundaryTest::completionsHaveAllTiles);
        check("Promise 14: \"different\"", BoundaryTest::completionsAreDifferent);
    }

    private static void notPromised() {
        check("Not promised: \"Nothing is promised beyond the answers and state changes described above\"",
                BoundaryTest::questionsChangeNothing);
        check("LANGUAGE.md 11: \"the same calls always give the same answers\"",
                BoundaryTest::sameCallsSameAnswers);
        check("Not promised: \"nothing about an object after its 512th call\", and LANGUAGE.md 7, long after it",
                BoundaryTest::longAfterTheLast);
    }

    public static void main(String[] args) {
        terms();
        changes();
        questions();
        notPromised();
        System.out.println(wrong == 0 ? "all answers are as due" : wrong + " answers are not as due");
        if (wrong != 0) {
            System.exit(1);
        }
    }
}
