import java.util.List;

/**
 * The edges of BRICKS, HOUSES, GUESSES, STATUS and the IMAGE (==== 4. of the document, promises 22 to 31): each method has the
 * sentence above it that it would catch if it were broken.
 */
public final class SideEdgeTest {
    private static final long NO_SUCH = Check.NO_SUCH;
    private static final long ILLEGAL = Check.ILLEGAL;
    private static final int NONE = MudWalls.NONE;
    private static final int MIN = Integer.MIN_VALUE;
    private static final int MAX = Integer.MAX_VALUE;

    private final Check check = new Check();

    public static void main(String[] args) {
        SideEdgeTest t = new SideEdgeTest();
        t.sharesOfSand();
        t.fortyTrials();
        t.crackedAboveOneThatDidNot();
        t.wholeBelowOneThatDid();
        t.noTrialsAtAll();
        t.nextIsCutDown();
        t.fewestIsCutUp();
        t.whatOfAMix();
        t.houseAtItsEnds();
        t.twelveHouses();
        t.noHouses();
        t.justEnoughCoin();
        t.coinAtItsEnds();
        t.likeOnesByCost();
        t.likeOnesByBits();
        t.worthNothing();
        t.whatOfTheFirst();
        t.guessesZeroToThree();
        t.guessOfABareWall();
        t.guessAsItIsNow();
        t.stickAtItsEnds();
        t.noFurtherOffThanThat();
        t.fitsWhereThereIsACell();
        t.creditSinceItWasKept();
        t.whereWithoutTwo();
        t.whereOfLikeOnes();
        t.whereFarthestOfFour();
        t.whereAtTheVeryLast();
        t.statusCountsEachItsOwn();
        t.imageInPlaceOfAnother();
        t.imageOfNothing();
        t.imageOfWallsAndWeeks();
        t.imageKeepsNoOther();
        t.restoredAgain();
        t.imageEndsWithTheYard();
        t.check.end();
    }

    private void due(String what, long want, Check.Call call) {
        check.due(what, want, call);
    }

    private static long flag(boolean so) {
        return so ? 1 : 0;
    }

    /** ==== 4.: "of a share of SAND (0 to 100)"; promise 22: "the share is not as told". */
    private void sharesOfSand() {
        for (boolean cracked : new boolean[] {true, false}) {
            for (int share = 0; share <= 100; share += 25) {
                int sand = share;
                MudWalls x = new MudWalls();
                due("22 " + sand + " " + cracked, 1, () -> x.brick(sand, cracked));
                due("23 " + sand + " " + cracked, sand, () -> x.mix(cracked ? 0 : 1));
                due("23 the other end, " + sand + " " + cracked, NONE, () -> x.mix(cracked ? 1 : 0));
                due("5 none refused", 0, () -> x.count(10));
            }
            MudWalls y = new MudWalls();
            int refused = 0;
            for (int sand : new int[] {MIN, -1, 101, MAX}) {
                due("22 " + sand + " " + cracked, NONE, () -> y.brick(sand, cracked));
                refused++;
                due("5 STATUS 2", refused, () -> y.count(10));
            }
            due("22 the first yet", 1, () -> y.brick(50, cracked));
        }
    }

    /** ==== 4.: "(trials; at most 40)"; promise 22: "how many trials there are. NONE (STATUS 2): there are 40". */
    private void fortyTrials() {
        MudWalls x = new MudWalls();
        for (int k = 1; k <= 40; k++) {
            int trial = k;
            due("22 trial " + k, k, () -> x.brick(trial % 2 == 0 ? 20 : 80, trial % 2 == 0));
        }
        due("22 the 41st", NONE, () -> x.brick(20, true));
        due("22 the 42nd", NONE, () -> x.brick(50, false));
        due("22 the 43rd", NONE, () -> x.brick(50, true));
        due("5 STATUS 2", 3, () -> x.count(10));
        mix("23 as they were", x, 20, 80, 50, 6);
        Check.tell(x, "");
        due("22 anew", 1, () -> x.brick(50, true));
    }

    /** Promise 22: "CRACKED at the least that didn't or above". */
    private void crackedAboveOneThatDidNot() {
        MudWalls x = new MudWalls();
        x.brick(50, false);
        x.brick(70, false);
        due("22 at it", NONE, () -> x.brick(50, true));
        due("22 just above it", NONE, () -> x.brick(51, true));
        due("22 at the greater one", NONE, () -> x.brick(70, true));
        due("22 100", NONE, () -> x.brick(100, true));
        mix("23 as it was", x, NONE, 50, 25, 6);
        due("22 just below it", 3, () -> x.brick(49, true));
        mix("23 side by side", x, 49, 50, 49, 0);
        due("22 0", 4, () -> x.brick(0, true));
        mix("23 the greatest stays", x, 49, 50, 49, 0);
    }

    /** Promise 22: "whole at the greatest that did or below". */
    private void wholeBelowOneThatDid() {
        MudWalls x = new MudWalls();
        x.brick(50, true);
        x.brick(30, true);
        due("22 at it", NONE, () -> x.brick(50, false));
        due("22 just below it", NONE, () -> x.brick(49, false));
        due("22 at the less one", NONE, () -> x.brick(30, false));
        due("22 0", NONE, () -> x.brick(0, false));
        mix("23 as it was", x, 50, NONE, 75, 6);
        due("22 just above it", 3, () -> x.brick(51, false));
        mix("23 side by side", x, 50, 51, 50, 0);
        due("22 100", 4, () -> x.brick(100, false));
        mix("23 the least stays", x, 50, 51, 50, 0);
    }

    private void mix(String what, MudWalls x, long... want) {
        for (int k = 0; k < 4; k++) {
            int trait = k;
            due(what + ", " + k, want[k], () -> x.mix(trait));
        }
    }

    private static MudWalls ends(int cracked, int whole) {
        MudWalls x = new MudWalls();
        if (cracked != NONE) {
            x.brick(cracked, true);
        }
        if (whole != NONE) {
            x.brick(whole, false);
        }
        return x;
    }

    /** ==== 4.: "With 0 for the one, 100 for the other, if there is none". */
    private void noTrialsAtAll() {
        mix("23 none", new MudWalls(), NONE, NONE, 50, 7);
        mix("23 0 cracked", ends(0, NONE), 0, NONE, 50, 7);
        mix("23 100 whole", ends(NONE, 100), NONE, 100, 50, 7);
        mix("23 0 whole", ends(NONE, 0), NONE, 0, 0, 0);
        mix("23 100 cracked", ends(100, NONE), 100, NONE, 100, 0);
        mix("23 1 whole", ends(NONE, 1), NONE, 1, 0, 0);
        mix("23 2 whole", ends(NONE, 2), NONE, 2, 1, 1);
        mix("23 99 cracked", ends(99, NONE), 99, NONE, 99, 0);
        mix("23 98 cracked", ends(98, NONE), 98, NONE, 99, 1);
    }

    /** ==== 4.: "NEXT share: half of both together, cut down". */
    private void nextIsCutDown() {
        int[][] rows = {{0, 1, 0}, {0, 2, 1}, {0, 3, 1}, {10, 13, 11}, {10, 14, 12}, {98, 100, 99}, {99, 100, 99}, {33, 66, 49}};
        for (int[] r : rows) {
            due("23 next of " + r[0] + " and " + r[1], r[2], () -> ends(r[0], r[1]).mix(2));
        }
    }

    /** ==== 4.: "how often how far they are apart must be halved (cut up), till it is 1 or less". */
    private void fewestIsCutUp() {
        int[][] rows = {{1, 0}, {2, 1}, {3, 2}, {4, 2}, {5, 3}, {7, 3}, {8, 3}, {9, 4}, {16, 4}, {17, 5}, {32, 5}, {33, 6}, {64, 6}, {65, 7}, {100, 7}};
        for (int[] r : rows) {
            due("23 fewest, apart by " + r[0], r[1], () -> ends(0, r[0]).mix(3));
            due("23 fewest, up there", r[1], () -> ends(100 - r[0], 100).mix(3));
        }
    }

    /** Promise 23: "NoSuchElementException: another what." */
    private void whatOfAMix() {
        for (int what : new int[] {MIN, -1, 4, MAX}) {
            due("23 no what " + what, NO_SUCH, () -> new MudWalls().mix(what));
            due("23 no what " + what + " of both", NO_SUCH, () -> ends(3, 9).mix(what));
        }
    }

    /** ==== 4.: "a chance to fall (0 to 1000), people (0 to 99), a cost (1 to 999)"; promise 24: "NONE (STATUS 3): .. not as told". */
    private void houseAtItsEnds() {
        int[][] taken = {{0, 50, 500}, {1000, 50, 500}, {500, 0, 500}, {500, 99, 500}, {500, 50, 1}, {500, 50, 999}, {0, 0, 1}, {1000, 99, 999}};
        for (int[] h : taken) {
            MudWalls x = new MudWalls();
            due("24 taken", 1, () -> x.house(h[0], h[1], h[2]));
            due("25 its worth", h[0] * h[1], () -> x.first(9999, 0));
            due("5 none refused", 0, () -> x.count(11));
        }
        int[][] refused = {{-1, 50, 500}, {1001, 50, 500}, {500, -1, 500}, {500, 100, 500}, {500, 50, 0}, {500, 50, 1000},
            {MIN, 50, 500}, {MAX, 50, 500}, {500, MIN, 500}, {500, MAX, 500}, {500, 50, MIN}, {500, 50, MAX}, {-1, -1, -1}};
        MudWalls y = new MudWalls();
        for (int k = 0; k < refused.length; k++) {
            int[] h = refused[k];
            due("24 refused " + k, NONE, () -> y.house(h[0], h[1], h[2]));
            due("5 STATUS 3", k + 1, () -> y.count(11));
        }
        due("24 the first yet", 1, () -> y.house(1, 1, 1));
    }

    /** ==== 4.: "HOUSES (at most 12)"; promise 24: "how many there are. NONE (STATUS 3): there are 12". */
    private void twelveHouses() {
        MudWalls x = new MudWalls();
        for (int k = 1; k <= 12; k++) {
            due("24 house " + k, k, () -> x.house(1000, 99, 999));
        }
        due("24 the 13th", NONE, () -> x.house(1, 1, 1));
        due("24 the 14th, not as told either", NONE, () -> x.house(-1, 1, 1));
        due("5 STATUS 3", 2, () -> x.count(11));
        first(x, 9999, 990000, 9990, 1023);
        first(x, 9990, 990000, 9990, 1023);
        first(x, 9989, 9 * 99000, 8991, 511);
        MudWalls y = new MudWalls();
        for (int k = 1; k <= 12; k++) {
            y.house(1000, 99, 1);
        }
        first(y, 12, 12 * 99000, 12, 4095);
        first(y, 11, 11 * 99000, 11, 2047);
        Check.tell(y, "");
        due("24 anew", 1, () -> y.house(1, 1, 1));
    }

    private void first(MudWalls x, int coin, long worth, long cost, long bits) {
        due("25 worth by " + coin, worth, () -> x.first(coin, 0));
        due("25 cost by " + coin, cost, () -> x.first(coin, 1));
        due("25 which by " + coin, bits, () -> x.first(coin, 2));
    }

    private static MudWalls houses(int[]... rows) {
        MudWalls x = new MudWalls();
        for (int[] h : rows) {
            x.house(h[0], h[1], h[2]);
        }
        return x;
    }

    /** Promise 25, of no HOUSES: none, by any coin. */
    private void noHouses() {
        first(new MudWalls(), 0, 0, 0, 0);
        first(new MudWalls(), 9999, 0, 0, 0);
    }

    /** ==== 4.: "By so much coin": all of it may be spent, not one more. */
    private void justEnoughCoin() {
        MudWalls x = houses(new int[] {10, 10, 5}, new int[] {3, 1, 7});
        first(x, 4, 0, 0, 0);
        first(x, 5, 100, 5, 1);
        first(x, 6, 100, 5, 1);
        first(x, 11, 100, 5, 1);
        first(x, 12, 103, 12, 3);
        first(x, 13, 103, 12, 3);
        // With less coin again nothing is left of what there was with more.
        first(x, 5, 100, 5, 1);
        first(x, 4, 0, 0, 0);
        first(houses(new int[] {1, 1, 1}), 0, 0, 0, 0);
        first(houses(new int[] {1, 1, 1}), 1, 1, 1, 1);
        first(houses(new int[] {1, 1, 999}), 998, 0, 0, 0);
        first(houses(new int[] {1, 1, 999}), 999, 1, 999, 1);
    }

    /** ==== 4.: "so much coin (0 to 9999)"; promise 25: "IllegalArgumentException (behind that): coin." */
    private void coinAtItsEnds() {
        MudWalls x = houses(new int[] {1, 1, 1});
        due("25 0", 0, () -> x.first(0, 0));
        due("25 9999", 1, () -> x.first(9999, 0));
        for (int coin : new int[] {MIN, -1, 10000, MAX}) {
            for (int k = 0; k < 3; k++) {
                int what = k;
                due("25 coin " + coin + " what " + k, ILLEGAL, () -> x.first(coin, what));
            }
            due("25 coin " + coin + " behind what", NO_SUCH, () -> x.first(coin, 3));
            due("25 coin " + coin + " of no houses", ILLEGAL, () -> new MudWalls().first(coin, 0));
        }
    }

    /** ==== 4.: "of like ones least cost". */
    private void likeOnesByCost() {
        first(houses(new int[] {10, 10, 6}, new int[] {10, 10, 5}), 6, 100, 5, 2);
        first(houses(new int[] {10, 10, 5}, new int[] {10, 10, 6}), 6, 100, 5, 1);
        first(houses(new int[] {10, 10, 7}, new int[] {60, 1, 3}, new int[] {40, 1, 3}), 7, 100, 6, 6);
        // What is worth nothing costs and is left.
        first(houses(new int[] {0, 99, 1}, new int[] {10, 10, 5}, new int[] {1000, 0, 1}), 9, 100, 5, 2);
    }

    /** ==== 4.: "then the least as bits (which)": neither the fewest nor the first to come. */
    private void likeOnesByBits() {
        first(houses(new int[] {10, 10, 5}, new int[] {10, 10, 5}), 5, 100, 5, 1);
        first(houses(new int[] {10, 10, 6}, new int[] {60, 1, 3}, new int[] {40, 1, 3}), 6, 100, 6, 1);
        first(houses(new int[] {60, 1, 3}, new int[] {40, 1, 3}, new int[] {10, 10, 6}), 6, 100, 6, 3);
        first(houses(new int[] {60, 1, 3}, new int[] {10, 10, 6}, new int[] {40, 1, 3}), 6, 100, 6, 2);
    }

    /** ==== 4.: "chances by people together are most": of nothing but 0 it is none of them, which costs least. */
    private void worthNothing() {
        first(houses(new int[] {0, 50, 1}, new int[] {500, 0, 1}), 9999, 0, 0, 0);
    }

    /** Promise 25: "NoSuchElementException: another what." */
    private void whatOfTheFirst() {
        for (int what : new int[] {MIN, -1, 3, MAX}) {
            due("25 no what " + what, NO_SUCH, () -> houses(new int[] {1, 1, 1}).first(1, what));
            due("25 no what " + what + " of no houses", NO_SUCH, () -> new MudWalls().first(-1, what));
        }
    }

    /** ==== 4.: "GUESSES 0 to 3"; promises 26, 28: "no such GUESS"; 28: "NONE: none is kept there". */
    private void guessesZeroToThree() {
        MudWalls x = Check.yard("wall 1;");
        x.lift(0, 1);
        for (int g = 0; g < 4; g++) {
            int guess = g;
            due("28 none is kept at " + g, NONE, () -> x.credit(guess));
            check.dueOf("26 " + g, 0, () -> x.guess(guess, 0));
            due("28 kept at " + g, 0, () -> x.credit(guess));
            due("27 so many fit", g + 1, () -> x.stick(0, 0, 200, 0));
            due("28 it fits", 1, () -> x.credit(guess));
        }
        MudWalls unused = new MudWalls();
        for (int g = 0; g < 4; g++) {
            int guess = g;
            due("28 new, none is kept at " + g, NONE, () -> unused.credit(guess));
        }
        due("27 new, none fits", 0, () -> unused.stick(0, 0, 0, 50));
        due("29 new", NONE, unused::where);
        for (int g : new int[] {MIN, -1, 4, MAX}) {
            check.dueOf("26 no guess " + g, NO_SUCH, () -> x.guess(g, 0));
            check.dueOf("26 no guess " + g + ", no wall", NO_SUCH, () -> x.guess(g, 1));
            due("28 no guess " + g, NO_SUCH, () -> x.credit(g));
            due("28 no guess " + g + ", none kept", NO_SUCH, () -> new MudWalls().credit(g));
        }
        for (int w : new int[] {MIN, -1, 1, MAX}) {
            check.dueOf("26 no wall " + w, NO_SUCH, () -> x.guess(0, w));
        }
        due("28 the first one's credit stands", 4, () -> x.credit(0));
    }

    /** ==== 4.: "a WALL as it is now, kept", if it has no LAYER, too: then it is kept and fits nothing. */
    private void guessOfABareWall() {
        MudWalls x = Check.yard("wall 1;");
        x.guess(0, 0);
        due("28 kept", 0, () -> x.credit(0));
        due("27 none fits", 0, () -> x.stick(0, 0, 0, 50));
        due("27 none fits 200", 0, () -> x.stick(0, 0, 200, 50));
        due("28 none", 0, () -> x.credit(0));
        // A bare one in place of another leaves nothing of that.
        x.lift(0, 2);
        x.guess(1, 0);
        x.down(0);
        x.down(0);
        x.guess(1, 0);
        due("27 nothing of the other", 0, () -> x.stick(0, 0, 200, 50));
    }

    /** ==== 4.: "a WALL as it is now": what comes to the WALL later doesn't come to the GUESS. */
    private void guessAsItIsNow() {
        MudWalls x = Check.yard("wall 1;week 0 50;");
        x.lift(0, 1);
        x.guess(0, 0);
        x.weeks(0, 1);
        due("27 as it was", 1, () -> x.stick(0, 0, 200, 0));
        due("27 not as it is", 0, () -> x.stick(0, 0, 150, 0));
        x.down(0);
        due("27 though it is gone", 1, () -> x.stick(0, 0, 200, 0));
        x.lift(0, 2);
        due("27 not the second layer", 0, () -> x.stick(1, 0, 200, 0));
    }

    /** Promise 27: "so much WATER (0 to 400) at LAYER 0 to 23, CELL 0 to 5 .. IllegalArgumentException: not as told, the slip." */
    private void stickAtItsEnds() {
        MudWalls x = Check.yard("wall 6;");
        for (int k = 0; k < 8; k++) {
            x.lift(0, 3);
        }
        x.guess(2, 0);
        due("27 the first", 1, () -> x.stick(0, 0, 200, 0));
        due("27 the last", 1, () -> x.stick(23, 5, 200, 50));
        due("27 no water", 0, () -> x.stick(0, 0, 0, 50));
        due("27 400", 0, () -> x.stick(0, 0, 400, 50));
        due("27 the last of none", 0, () -> new MudWalls().stick(23, 5, 400, 50));
        int[][] wrong = {{-1, 0, 0, 0}, {24, 0, 0, 0}, {0, -1, 0, 0}, {0, 6, 0, 0}, {0, 0, -1, 0}, {0, 0, 401, 0}, {0, 0, 0, -1}, {0, 0, 0, 51},
            {MIN, 0, 0, 0}, {MAX, 0, 0, 0}, {0, MIN, 0, 0}, {0, MAX, 0, 0}, {0, 0, MIN, 0}, {0, 0, MAX, 0}, {0, 0, 0, MIN}, {0, 0, 0, MAX}};
        for (int[] s : wrong) {
            String what = "27 " + s[0] + " " + s[1] + " " + s[2] + " " + s[3];
            due(what, ILLEGAL, () -> x.stick(s[0], s[1], s[2], s[3]));
            due(what + ", none kept", ILLEGAL, () -> new MudWalls().stick(s[0], s[1], s[2], s[3]));
        }
        due("28 two of the readings", 2, () -> x.credit(2));
    }

    /** ==== 4.: "with a slip (0 to 50): .. no further off than that", to either side. */
    private void noFurtherOffThanThat() {
        MudWalls x = Check.yard("wall 1;");
        x.lift(0, 1);
        x.guess(0, 0);
        for (int slip : new int[] {0, 1, 49, 50}) {
            due("27 above by " + slip, 1, () -> x.stick(0, 0, 200 + slip, slip));
            due("27 below by " + slip, 1, () -> x.stick(0, 0, 200 - slip, slip));
            due("27 above by more than " + slip, 0, () -> x.stick(0, 0, 201 + slip, slip));
            due("27 below by more than " + slip, 0, () -> x.stick(0, 0, 199 - slip, slip));
        }
        due("28 credit", 8, () -> x.credit(0));
        MudWalls y = Check.yard("wall 1 ground 20;week 0 0;");
        y.lift(0, 1);
        y.weeks(0, 10);
        y.guess(0, 0);
        due("27 400", 1, () -> y.stick(0, 0, 400, 0));
        due("27 399", 0, () -> y.stick(0, 0, 399, 0));
        due("27 350 by 50", 1, () -> y.stick(0, 0, 350, 50));
        due("27 349 by 50", 0, () -> y.stick(0, 0, 349, 50));
    }

    /** ==== 4.: "(one without that CELL doesn't)". */
    private void fitsWhereThereIsACell() {
        MudWalls x = Check.yard("wall 1;wall 3;");
        x.lift(0, 2);
        x.lift(1, 1);
        x.guess(0, 0);
        x.guess(3, 1);
        due("27 both", 2, () -> x.stick(0, 0, 200, 50));
        due("27 the deep one", 1, () -> x.stick(0, 1, 200, 50));
        due("27 its last cell", 1, () -> x.stick(0, 2, 200, 50));
        due("27 behind it", 0, () -> x.stick(0, 3, 200, 50));
        due("27 the high one", 1, () -> x.stick(1, 0, 200, 50));
        due("27 beside it", 0, () -> x.stick(1, 1, 200, 50));
        due("27 above it", 0, () -> x.stick(2, 0, 200, 50));
        due("27 0 is no water of a cell that is not there", 0, () -> x.stick(2, 0, 0, 50));
        due("28 the high one", 2, () -> x.credit(0));
        due("28 the deep one", 3, () -> x.credit(3));
        due("28 none kept", NONE, () -> x.credit(1));
    }

    /** ==== 4.: "CREDIT of a GUESS: how many of the readings since it was kept it fits"; promise 26: "(its CREDIT is 0 then)". */
    private void creditSinceItWasKept() {
        MudWalls x = Check.yard("wall 1;");
        x.lift(0, 1);
        x.guess(0, 0);
        x.stick(0, 0, 200, 0);
        x.guess(1, 0);
        x.stick(0, 0, 200, 0);
        x.stick(0, 0, 0, 0);
        due("28 two of three", 2, () -> x.credit(0));
        due("28 one of two", 1, () -> x.credit(1));
        x.guess(0, 0);
        due("28 kept again", 0, () -> x.credit(0));
        due("28 not the other", 1, () -> x.credit(1));
        due("27 refused", ILLEGAL, () -> x.stick(0, 0, 200, 51));
        due("28 a refused reading is none", 1, () -> x.credit(1));
    }

    /** Promise 29: "NONE: no two GUESSES have a CELL in common." */
    private void whereWithoutTwo() {
        MudWalls x = Check.yard("wall 1;wall 2;");
        due("29 none", NONE, x::where);
        x.lift(0, 1);
        x.guess(2, 0);
        due("29 one", NONE, x::where);
        x.guess(0, 1);
        due("29 one and a bare one", NONE, x::where);
        x.guess(3, 1);
        due("29 one and two bare ones", NONE, x::where);
        x.lift(1, 1);
        x.guess(3, 1);
        due("29 one in common", 0, x::where);
        Check.tell(x, "wall 1;");
        due("29 gone with the yard", NONE, x::where);
    }

    /** ==== 4.: "the CELL (the least LAYER, then the outermost)": of like ones; that of no difference, too. */
    private void whereOfLikeOnes() {
        MudWalls x = Check.yard("wall 3 ground 20 shoes 3 hat outer 0 inner 0;week 0 0;");
        x.lift(0, 2);
        x.guess(0, 0);
        x.guess(1, 0);
        due("29 all alike", 0, x::where);
        // Only the highest layer dries, by 24 each: 6 is its outermost place.
        MudWalls y = Check.yard("wall 3 shoes 3 hat outer 0 inner 0;week 0 99;");
        y.lift(0, 2);
        y.guess(0, 0);
        y.weeks(0, 1);
        y.guess(1, 0);
        due("29 the least layer of them, the outermost", 6, y::where);
        MudWalls z = Check.yard("wall 3 shoes 3 hat outer 0 inner 4;week 0 99;");
        z.lift(0, 1);
        z.guess(0, 0);
        z.weeks(0, 1);
        z.guess(1, 0);
        due("29 the innermost lost one more", 2, z::where);
    }

    /** ==== 4.: "at which WATER of two GUESSES that are kept lies farthest apart (of those that have it)". */
    private void whereFarthestOfFour() {
        MudWalls x = Check.yard("wall 1 shoes 3 hat;week 0 40;");
        x.lift(0, 2);
        for (int g = 0; g < 4; g++) {
            x.guess(g, 0);
            x.weeks(0, 1);
        }
        // 200, 170, 149, 134 of the foot; 200, 160, 137, 123 of the top: the first and the last of them, at the top.
        due("29 the top", 6, x::where);
        x.guess(3, 0);
        x.lift(0, 1);
        x.guess(0, 0);
        // A week on 124 and 115, which two of them are now: 170 and 124 of the foot are 46, 160 and 115 of the top 45.
        due("29 the foot", 0, x::where);
        MudWalls y = Check.yard("wall 1 shoes 3 hat;wall 2 shoes 3 hat outer 0;week 0 99;");
        y.lift(0, 1);
        y.lift(1, 1);
        y.guess(0, 1);
        y.guess(1, 0);
        y.weeks(1, 1);
        y.guess(3, 1);
        // 200, 200 and 176 at the outer cell; 200 and 151 within, where the second has none.
        due("29 where two of three have one", 1, y::where);
        y.weeks(0, 1);
        y.guess(1, 0);
        // 200, 101 and 176 at the outer cell.
        due("29 where three have one", 0, y::where);
        y.guess(0, 0);
        due("29 of the second and the third", 0, y::where);
    }

    /** Promise 29: "6 by the LAYER and the CELL", up to LAYER 23, CELL 5: there alone one dries, by 1. */
    private void whereAtTheVeryLast() {
        MudWalls x = Check.yard("wall 6 shoes 3 hat outer 0;week 0 2;");
        for (int k = 0; k < 8; k++) {
            x.lift(0, 3);
        }
        x.hollow(0, 0, 0);
        x.work(0, 4);
        x.guess(0, 0);
        x.weeks(0, 1);
        x.guess(3, 0);
        due("7 it lost one", 199, () -> x.cell(0, 23, 5, 0));
        due("29 the very last", 143, x::where);
    }

    /** ==== 4.: "STATUS: how many calls were refused: 0 of TEXTS with a FAULT, 1 of LIFTS, 2 of BRICKS, 3 of HOUSES." */
    private void statusCountsEachItsOwn() {
        MudWalls x = Check.yard("wall 1;");
        Check.Call[] refused = {() -> Check.tell(x, "x"), () -> x.lift(0, 0), () -> x.brick(101, true), () -> x.house(0, 0, 0)};
        long[] want = new long[4];
        for (int round = 0; round < 3; round++) {
            for (int k = 0; k < 4; k++) {
                Check.of(refused[k]);
                want[k]++;
                for (int s = 0; s < 4; s++) {
                    int status = s;
                    due("5 STATUS " + s, want[s], () -> x.count(8 + status));
                }
            }
        }
        // Calls that throw, and those that answer NONE for want of anything, are not among them.
        Check.of(() -> x.lift(1, 0));
        Check.of(() -> x.yard(-1));
        Check.of(() -> x.down(0));
        Check.of(() -> x.weeks(0, 521));
        Check.of(() -> x.stick(0, 0, 0, 51));
        Check.of(() -> x.plan(0, 24));
        for (int k = 0; k < 36; k++) {
            x.feed(0, 0, 0, 0, 0);
        }
        for (int s = 0; s < 4; s++) {
            int status = s;
            due("5 STATUS " + s + " stays", 3, () -> x.count(8 + status));
        }
    }

    /** Promise 30: "AN IMAGE is kept, in place of another one." */
    private void imageInPlaceOfAnother() {
        MudWalls x = Check.yard("wall 1;");
        x.image();
        x.lift(0, 1);
        x.image();
        x.lift(0, 1);
        due("31", 1, () -> flag(x.restore()));
        due("6 the later one", 1, () -> x.wall(0, 1));
    }

    /** Promise 31: of a new object, of a YARD without WALLS, there may be an IMAGE, too. */
    private void imageOfNothing() {
        MudWalls x = new MudWalls();
        due("31 none", 0, () -> flag(x.restore()));
        x.image();
        due("31 of nothing", 1, () -> flag(x.restore()));
        due("5 no walls", 0, () -> x.count(0));
        x.brick(-1, true);
        due("5 one refused", 1, () -> x.count(10));
        due("31 again", 1, () -> flag(x.restore()));
        due("5 none refused", 0, () -> x.count(10));
    }

    /** ==== 4.: "AN IMAGE keeps WALLS, COME and GONE, their weeks, STATUS": behind all that can be done it is as it was. */
    private void imageOfWallsAndWeeks() {
        MudWalls x = Check.yard("earth 0 50 0;wall 1 ground 3 outer 50 inner 40;wall 2;week 9 30;week 0 50 frost;");
        x.lift(0, 2);
        x.weeks(0, 1);
        x.lift(1, 1);
        x.hollow(1, 0, 1);
        x.lift(0, 0);
        List<String> before = Look.now(x);
        x.image();
        for (int work = 0; work < 6; work++) {
            x.work(0, work);
        }
        x.hollow(0, 0, 0);
        x.lift(0, 9);
        x.weeks(0, 3);
        x.weeks(1, 2);
        x.down(1);
        x.lift(1, 10);
        x.brick(101, true);
        x.house(0, 0, 0);
        due("31", 1, () -> flag(x.restore()));
        check.sameRows("31 all is as it was", before, Look.now(x));
    }

    /** ==== 4.: an IMAGE keeps these and no other: BRICKS, HOUSES, GUESSES, PLAN, ORDER, tape and FAULT go on. */
    private void imageKeepsNoOther() {
        MudWalls x = Check.yard("wall 1;");
        x.lift(0, 1);
        x.image();
        x.brick(30, true);
        x.house(7, 3, 1);
        x.guess(1, 0);
        x.stick(0, 0, 200, 0);
        x.plan(0, 2);
        x.order(0, 2);
        Check.tell(x, "wall 1 x");
        Check.feed(x, "wall 2;");
        due("31", 1, () -> flag(x.restore()));
        due("23 bricks", 30, () -> x.mix(0));
        due("25 houses", 21, () -> x.first(1, 0));
        due("28 guesses", 1, () -> x.credit(1));
        due("16 the plan", 1, () -> x.planned(0));
        due("21 the order", 1, () -> x.ordered(0));
        due("4 the fault", 7, x::fault);
        due("5 the tape", 20, () -> x.count(5));
        due("5 STATUS is the image's", 0, () -> x.count(8));
        due("3 the tape", 0, () -> x.yard(7));
        due("6 the tape", 2, () -> x.wall(0, 0));
    }

    /** Promise 31: "It is as the IMAGE again": as often as it is asked; what is done behind it doesn't come into the IMAGE. */
    private void restoredAgain() {
        MudWalls x = Check.yard("wall 1;week 0 50;");
        x.lift(0, 1);
        x.image();
        for (int k = 0; k < 3; k++) {
            x.weeks(0, 1);
            x.hollow(0, 0, 0);
            x.lift(0, 2);
            due("31 " + k, 1, () -> flag(x.restore()));
            due("6 layers", 1, () -> x.wall(0, 1));
            due("7 water", 200, () -> x.cell(0, 0, 0, 0));
            due("7 not hollow", 0, () -> x.cell(0, 0, 0, 2));
            due("6 weeks", 0, () -> x.wall(0, 8));
            due("5 come", 200, () -> x.count(6));
            due("5 gone", 0, () -> x.count(7));
        }
    }

    /** Promise 3: "the image [is] gone" with a new YARD, not with a FAULT, nor with a yard() that throws. */
    private void imageEndsWithTheYard() {
        MudWalls x = Check.yard("wall 1;");
        x.image();
        x.lift(0, 1);
        Check.tell(x, "oops");
        due("3 throws", ILLEGAL, () -> x.yard(1));
        due("31 behind a fault", 1, () -> flag(x.restore()));
        due("6 as it was", 0, () -> x.wall(0, 1));
        due("3 anew", 0, () -> x.yard(0));
        due("31 behind a new one", 0, () -> flag(x.restore()));
    }
}
