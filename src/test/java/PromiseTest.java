// The promises of the document one by one: ordinary inputs, edges and wrong inputs.
public final class PromiseTest {
    private static final int[] WRONG_KINDS = {-1, 9, 10, -9, Integer.MIN_VALUE, Integer.MAX_VALUE};

    private static int wrong = 0;

    private static void due(int promise, String what, int got, int want) {
        if (got != want) {
            wrong++;
            System.out.println("promise " + promise + ": " + what + " answered " + got + ", due is " + want);
        }
    }

    /** A hand with the tiles whose kinds are the digits. */
    private static TileHands hand(String digits) {
        TileHands hand = new TileHands();
        for (char digit : digits.toCharArray()) {
            hand.add(digit - '0');
        }
        due(2, "size of " + digits, hand.size(), digits.length());
        return hand;
    }

    private static void holds(int promise, String what, TileHands hand, String digits) {
        for (int kind = 0; kind < 9; kind++) {
            int want = 0;
            for (char digit : digits.toCharArray()) {
                want += digit - '0' == kind ? 1 : 0;
            }
            due(promise, what + ": have(" + kind + ")", hand.have(kind), want);
        }
        due(promise, what + ": size()", hand.size(), digits.length());
    }

    private static void constants() {
        due(2, "BAD_ARG", TileHands.BAD_ARG, -1);
        due(2, "FULL", TileHands.FULL, -2);
        due(2, "NONE", TileHands.NONE, -4);
    }

    private static void newObject() {
        TileHands one = new TileHands();
        holds(1, "new", one, "");
        due(1, "clear()", one.clear(), 0);
        due(1, "turn()", one.turn(), 0);
        one.add(3);
        holds(1, "a second new", new TileHands(), "");
        holds(1, "the first beside it", one, "3");
    }

    private static void add() {
        TileHands hand = new TileHands();
        for (int kind = 0; kind < 9; kind++) {
            due(2, "add(" + kind + ")", hand.add(kind), kind + 1);
        }
        holds(2, "one of each", hand, "012345678");
        for (int kind : WRONG_KINDS) {
            due(2, "add(" + kind + ")", hand.add(kind), -1);
        }
        holds(2, "after wrong kinds", hand, "012345678");

        hand = hand("0000");
        due(2, "a fifth 0", hand.add(0), -4);
        holds(2, "after a fifth", hand, "0000");
        hand = hand("8888");
        due(2, "a fifth 8", hand.add(8), -4);

        hand = hand("00001111222");
        due(2, "full: add(9)", hand.add(9), -1);
        due(2, "full: add(-1)", hand.add(-1), -1);
        due(2, "full, four of it: add(0)", hand.add(0), -4);
        due(2, "full, three of it: add(2)", hand.add(2), -2);
        due(2, "full, none of it: add(8)", hand.add(8), -2);
        holds(2, "after refusals", hand, "00001111222");
        hand.drop(0);
        due(2, "room again: add(2)", hand.add(2), 11);
        holds(2, "full again", hand, "00011112222");
    }

    private static void drop() {
        TileHands hand = hand("0033388");
        due(3, "drop(3)", hand.drop(3), 6);
        due(3, "drop(0)", hand.drop(0), 5);
        due(3, "drop(8)", hand.drop(8), 4);
        due(3, "drop(8)", hand.drop(8), 3);
        due(3, "no 8 left: drop(8)", hand.drop(8), -4);
        due(3, "never a 5: drop(5)", hand.drop(5), -4);
        for (int kind : WRONG_KINDS) {
            due(3, "drop(" + kind + ")", hand.drop(kind), -1);
        }
        holds(3, "after drops", hand, "033");
        hand.drop(0);
        hand.drop(3);
        due(3, "the last one", hand.drop(3), 0);
        due(3, "empty: drop(3)", hand.drop(3), -4);
        due(3, "empty: drop(9)", hand.drop(9), -1);
        holds(3, "empty", hand, "");
    }

    private static void turn() {
        TileHands hand = hand("00001122357");
        due(4, "turn()", hand.turn(), 11);
        holds(4, "turned", hand, "66665544317");
        due(4, "turn()", hand.turn(), 11);
        holds(4, "turned back", hand, "00001122357");

        hand = hand("0123456");
        due(4, "turn()", hand.turn(), 7);
        holds(4, "one of each turned", hand, "0123456");

        hand = hand("333777888");
        due(4, "turn()", hand.turn(), 9);
        holds(4, "the middle and the kinds above 6 stay", hand, "333777888");

        for (int kind = 0; kind <= 6; kind++) {
            hand = hand("" + kind);
            due(4, "turn()", hand.turn(), 1);
            holds(4, "a " + kind + " turned", hand, "" + (6 - kind));
        }
    }

    private static void clear() {
        TileHands hand = hand("00001111888");
        due(5, "clear()", hand.clear(), 11);
        holds(5, "cleared", hand, "");
        due(5, "clear() again", hand.clear(), 0);
        due(5, "distance()", hand.distance(), 11);
        due(5, "add(0)", hand.add(0), 1);
        due(5, "clear()", hand.clear(), 1);
    }

    private static void sizeAndHave() {
        TileHands hand = new TileHands();
        due(6, "size()", hand.size(), 0);
        hand.add(8);
        due(6, "size()", hand.size(), 1);
        hand.add(9);
        due(6, "size() after a refusal", hand.size(), 1);
        due(6, "size() of eleven", hand("00112233445").size(), 11);

        due(7, "have(8)", hand.have(8), 1);
        due(7, "have(0)", hand.have(0), 0);
        due(7, "have(4) of four", hand("4444").have(4), 4);
        for (int kind : WRONG_KINDS) {
            due(7, "have(" + kind + ")", hand.have(kind), -1);
        }
    }

    private static void look(String digits, int distance, int wanted, int hope, int best) {
        TileHands hand = hand(digits);
        due(8, digits + ": distance()", hand.distance(), distance);
        due(9, digits + ": wanted()", hand.wanted(), wanted);
        due(10, digits + ": hope()", hand.hope(), hope);
        due(11, digits + ": best()", hand.best(), best);
        holds(11, digits + " after it was looked at", hand, digits);
    }

    private static void distanceWantedHopeBest() {
        look("", 11, 511, 36, -4);
        // With one tile, every kind takes part in some nearest complete hand.
        look("0", 10, 511, 35, 0);
        // Complete: nothing is wanted. Without a 3 the hope is 10 (kinds 0 to 4), without another 9 or 4.
        look("00011122233", 0, 0, 0, 3);
        // Three groups and a single tile: only its pair is missing, and 8 is in no run.
        look("0001112228", 1, 1 << 8, 3, 8);
        // Kinds 7 and 8 are in no run, so one of 6, 7 and 8 is kept: as the pair (with a third 2),
        // as the third group (with 22 the pair), or 6 in the run from 4. Putting 7 or 8 away leaves
        // the same hope, so the lesser goes.
        look("00011122678", 2, 1 << 2 | 1 << 4 | 1 << 5 | 1 << 6 | 1 << 7 | 1 << 8, 2 + 2 * 4 + 3 * 3, 7);
        // Four of a kind: the fourth is not wanted, and only three count.
        look("88887777", 5, 127, 28, 7);
        // A full hand may want a twelfth tile.
        look("00011122278", 1, 1 << 7 | 1 << 8, 6, 7);
    }

    private static void groups(String digits, int want) {
        due(12, digits + ": groups()", hand(digits).groups(), want);
    }

    private static void groups() {
        groups("", 0);
        groups("00", 0);
        groups("000", 1);
        groups("012", 1);
        groups("456", 1);
        groups("567", 0);
        groups("678", 0);
        groups("777888", 2);
        groups("0011", 0);
        groups("0000111122", 3);
        groups("00001111222", 3);
        groups("012012012", 3);
        // Greed for three of a kind would leave one group here, and greed for runs there.
        groups("000112", 1);
        groups("0001122", 2);
        groups("00012", 1);
        groups("0123456", 2);
        groups("00112233", 2);
        groups("7777888866", 2);
    }

    private static void ways(String digits, int want) {
        due(13, digits + ": ways()", hand(digits).ways(), want);
    }

    private static void ways() {
        ways("", 0);
        ways("0", 0);
        ways("00", 1);
        ways("88", 1);
        ways("01", 0);
        ways("000", 0);
        ways("0000", 0);
        ways("0011", 0);
        ways("00012", 1);
        ways("00088", 1);
        ways("66678", 0);
        ways("77788", 1);
        ways("00011122", 1);
        ways("00001122", 1);
        ways("00111222", 1);
        ways("00011122233", 3);
        ways("00011122288", 2);
        ways("55566677788", 1);
        ways("00012345666", 2);
        ways("66677788800", 1);
        ways("0001112223", 0);
    }

    private static void completions(String digits, int want) {
        due(14, digits + ": completions()", hand(digits).completions(), want);
    }

    private static void completions() {
        completions("", 2792);
        completions("00011122233", 1);
        completions("00011122278", 0);
        completions("0001112228", 1);
        completions("77778", 0);
        completions("777788", 0);
        // 66 is the pair and one of 6 threes or 5 runs comes, or a third 6 and one of 6 pairs.
        completions("77788866", 6 + 5 + 6);
        // One hand with two divisions is one completion.
        completions("0001112223", 5);
    }

    public static void main(String[] args) {
        constants();
        newObject();
        add();
        drop();
        turn();
        clear();
        sizeAndHave();
        distanceWantedHopeBest();
        groups();
        ways();
        completions();
        System.out.println(wrong == 0 ? "all answers are as due" : wrong + " answers are not as due");
        if (wrong != 0) {
            System.exit(1);
        }
    }
}
