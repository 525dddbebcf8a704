/**
 * What a refused call leaves as it was: an object behind it is laid beside one made alike without it, walls, tape, image,
 * plan, order, bricks, houses, guesses and STATUS. A call that only asks is tested likewise.
 */
public final class RefusedTest {
    private static final long NO_SUCH = Check.NO_SUCH;
    private static final long ILLEGAL = Check.ILLEGAL;
    private static final int NONE = MudWalls.NONE;
    private static final int MIN = Integer.MIN_VALUE;
    private static final int MAX = Integer.MAX_VALUE;

    private final Check check = new Check();

    public static void main(String[] args) {
        RefusedTest t = new RefusedTest();
        t.feedOnAFullTape();
        t.yardWithoutSoManyBytes();
        t.yardWithAFault();
        t.lifts();
        t.downOfABareWall();
        t.bricks();
        t.housesRefused();
        t.restoreWithoutAnImage();
        t.noSuchWall();
        t.noSuchLayerOrCell();
        t.noSuchWhat();
        t.noSuchPlace();
        t.numbersNotAsTold();
        t.noPlanKeepsWhatIsKept();
        t.noOrderKeepsWhatIsKept();
        t.askingChangesNothing();
        t.check.end();
    }

    /** Something of everything: two walls, an image that differs, a plan, an order, a FAULT's place, bytes on the tape. */
    static MudWalls busy() {
        MudWalls x = Check.yard("earth 10 50 0;wall 2 ground 3 outer 50;wall 1 hat;week 9 30;week 0 50 frost;");
        x.lift(0, 1);
        x.weeks(0, 1);
        x.lift(0, 0);
        x.brick(101, true);
        x.house(1, 1, 0);
        x.image();
        x.weeks(0, 1);
        x.lift(0, 1);
        x.lift(1, 1);
        x.weeks(1, 2);
        x.hollow(0, 0, 1);
        x.plan(1, 2);
        x.order(1, 5);
        x.brick(30, true);
        x.brick(60, false);
        x.house(5, 5, 5);
        x.guess(0, 0);
        x.guess(2, 1);
        x.stick(0, 0, 190, 50);
        Check.tell(x, "wall 1;oops");
        Check.feed(x, "wall 3 hat;week 1 2;");
        return x;
    }

    /** As busy(), and all of it at its most: tape, layers, bricks, houses. */
    static MudWalls full() {
        MudWalls x = Check.yard("earth 10 50 0;wall 1;week 9 30;week 0 50 frost;");
        x.lift(0, 8);
        x.image();
        x.lift(0, 9);
        x.lift(0, 7);
        for (int k = 1; k <= 40; k++) {
            x.brick(k <= 20 ? 30 : 60, k <= 20);
        }
        for (int k = 1; k <= 12; k++) {
            x.house(k, 1, k);
        }
        Check.feed(x, "wall 3 hat;week 1 2;" + " ".repeat(660) + "            wall 4 ;");
        return x;
    }

    private void nothing(String what, long want, Check.CallOn call) {
        check.changesNothing(what, RefusedTest::busy, want, call);
    }

    /** Promise 2: "NONE, and none come, if it would have more than 700." */
    private void feedOnAFullTape() {
        check.changesNothing("2 full", RefusedTest::full, NONE, x -> x.feed(0x77616c6c, 0x20313b20, MIN, MAX, -1));
    }

    /** Promise 3: "IllegalArgumentException: the tape has not so many, n below 0 (nothing changes)." */
    private void yardWithoutSoManyBytes() {
        for (int n : new int[] {MIN, -20, -1, 21, 40, 700, 701, MAX}) {
            nothing("3 of 20 bytes " + n, ILLEGAL, x -> x.yard(n));
        }
        for (int n : new int[] {MIN, -1, 701, MAX}) {
            check.changesNothing("3 of 700 bytes " + n, RefusedTest::full, ILLEGAL, x -> x.yard(n));
        }
        for (int n : new int[] {MIN, -1, 1, 20, MAX}) {
            check.changesNothing("3 of none " + n, MudWalls::new, ILLEGAL, x -> x.yard(n));
        }
    }

    /** Promise 3: "or the FAULT (all stays, but STATUS)", the tape "is empty then". */
    private void yardWithAFault() {
        String[] texts = {"oops", "wall 9;", "earth 1 2 3;wall 2;week 3 4;earth 5 6 7;"};
        int[] faults = {1, 2, 3};
        for (int k = 0; k < texts.length; k++) {
            String text = texts[k];
            // The one beside it has had the same FAULT already, so that fault() tells the same place.
            check.isCounted("3 fault of " + text, 0, () -> behindFault(text), faults[k], x -> Check.tell(x, text));
        }
    }

    private static MudWalls behindFault(String text) {
        MudWalls x = busy();
        x.yard(10);
        Check.tell(x, text);
        return x;
    }

    /** Promise 9: "NONE (STATUS 1): layers are not 1 to 9, or it would have more than 24." */
    private void lifts() {
        for (int layers : new int[] {MIN, -1, 0, 10, 24, MAX}) {
            check.isCounted("9 layers " + layers, 1, RefusedTest::busy, NONE, x -> x.lift(0, layers));
        }
        for (int layers : new int[] {1, 9, 0, 10}) {
            check.isCounted("9 on 24, layers " + layers, 1, RefusedTest::full, NONE, x -> x.lift(0, layers));
        }
        check.isCounted("9 nine on 16", 1, () -> layersOf(16), NONE, x -> x.lift(0, 9));
        check.isCounted("9 two on 23", 1, () -> layersOf(23), NONE, x -> x.lift(0, 2));
    }

    static MudWalls layersOf(int layers) {
        MudWalls x = Check.yard("wall 1;");
        for (int k = 0; k < layers; k++) {
            x.lift(0, 1);
        }
        return x;
    }

    /** Promise 10: "NONE: there is none." It is no LIFT: no STATUS counts it. */
    private void downOfABareWall() {
        Check.Scene bare = () -> {
            MudWalls x = busy();
            x.down(0);
            x.down(0);
            return x;
        };
        check.changesNothing("10", bare, NONE, x -> x.down(0));
    }

    /** Promise 22: "NONE (STATUS 2): there are 40, the share is not as told, it gainsays". */
    private void bricks() {
        for (int share : new int[] {MIN, -1, 101, MAX}) {
            check.isCounted("22 cracked " + share, 2, RefusedTest::busy, NONE, x -> x.brick(share, true));
            check.isCounted("22 whole " + share, 2, RefusedTest::busy, NONE, x -> x.brick(share, false));
        }
        for (int share : new int[] {60, 61, 100}) {
            check.isCounted("22 cracked at or above " + share, 2, RefusedTest::busy, NONE, x -> x.brick(share, true));
        }
        for (int share : new int[] {0, 29, 30}) {
            check.isCounted("22 whole at or below " + share, 2, RefusedTest::busy, NONE, x -> x.brick(share, false));
        }
        check.isCounted("22 the 41st, cracked", 2, RefusedTest::full, NONE, x -> x.brick(40, true));
        check.isCounted("22 the 41st, whole", 2, RefusedTest::full, NONE, x -> x.brick(50, false));
        check.isCounted("22 the 41st, and gainsays", 2, RefusedTest::full, NONE, x -> x.brick(60, true));
    }

    /** Promise 24: "NONE (STATUS 3): there are 12, not as told." */
    private void housesRefused() {
        int[][] wrong = {{-1, 1, 1}, {1001, 1, 1}, {MIN, 1, 1}, {MAX, 1, 1}, {1, -1, 1}, {1, 100, 1}, {1, MIN, 1}, {1, MAX, 1},
            {1, 1, 0}, {1, 1, 1000}, {1, 1, MIN}, {1, 1, MAX}, {-1, 100, 0}};
        for (int[] h : wrong) {
            check.isCounted("24 house " + h[0] + " " + h[1] + " " + h[2], 3, RefusedTest::busy, NONE, x -> x.house(h[0], h[1], h[2]));
        }
        check.isCounted("24 the 13th", 3, RefusedTest::full, NONE, x -> x.house(1000, 99, 1));
    }

    /** Promise 31: "False: there is none." */
    private void restoreWithoutAnImage() {
        Check.Scene none = () -> {
            MudWalls x = Check.yard("wall 2;wall 1;week 9 9 frost;");
            x.lift(0, 2);
            x.weeks(0, 2);
            x.lift(0, 0);
            x.guess(1, 0);
            x.brick(7, true);
            return x;
        };
        check.changesNothing("31 none", none, 0, x -> x.restore() ? 1 : 0);
        check.changesNothing("31 none, new", MudWalls::new, 0, x -> x.restore() ? 1 : 0);
    }

    /** Promise 6: "no such WALL (as everywhere)": all calls that take one, whatever else they are given. */
    private void noSuchWall() {
        for (int w : new int[] {MIN, -1, 2, 3, 4, MAX}) {
            String of = " of wall " + w;
            nothing("6" + of, NO_SUCH, x -> x.wall(w, 0));
            nothing("7" + of, NO_SUCH, x -> x.cell(w, 0, 0, 0));
            nothing("8" + of, NO_SUCH, x -> x.layer(w, 0, 0));
            nothing("9" + of, NO_SUCH, x -> x.lift(w, 1));
            nothing("9 not counted" + of, NO_SUCH, x -> x.lift(w, 0));
            nothing("10" + of, NO_SUCH, x -> x.down(w));
            nothing("11" + of, NO_SUCH, x -> done(() -> x.hollow(w, 0, 0)));
            nothing("12" + of, NO_SUCH, x -> x.weeks(w, 1));
            nothing("12 behind it" + of, NO_SUCH, x -> x.weeks(w, 521));
            nothing("13" + of, NO_SUCH, x -> x.high(w));
            nothing("14" + of, NO_SUCH, x -> x.when(w, 1));
            nothing("14 behind it" + of, NO_SUCH, x -> x.when(w, 0));
            nothing("15" + of, NO_SUCH, x -> x.plan(w, 1));
            nothing("15 behind it" + of, NO_SUCH, x -> x.plan(w, 25));
            nothing("17" + of, NO_SUCH, x -> x.turned(w, 1, 1, 0));
            nothing("17 other" + of, NO_SUCH, x -> x.turned(0, w, 1, 0));
            nothing("17 behind it" + of, NO_SUCH, x -> x.turned(0, w, 9, 0));
            nothing("18" + of, NO_SUCH, x -> x.line(w, 1, 0));
            nothing("18 behind it" + of, NO_SUCH, x -> x.line(w, 0, 0));
            nothing("19" + of, NO_SUCH, x -> done(() -> x.work(w, 0)));
            nothing("20" + of, NO_SUCH, x -> x.order(w, 0));
            nothing("20 behind it" + of, NO_SUCH, x -> x.order(w, 64));
            nothing("26" + of, NO_SUCH, x -> done(() -> x.guess(0, w)));
        }
    }

    private static long done(Runnable call) {
        call.run();
        return 0;
    }

    /** Promise 7: "also no such LAYER, CELL (as everywhere)". WALL 0 has two of two, WALL 1 one of one. */
    private void noSuchLayerOrCell() {
        for (int k : new int[] {MIN, -1, 2, 5, 6, 23, 24, MAX}) {
            nothing("7 layer " + k, NO_SUCH, x -> x.cell(0, k, 0, 0));
            nothing("7 cell " + k, NO_SUCH, x -> x.cell(0, 0, k, 0));
            nothing("8 layer " + k, NO_SUCH, x -> x.layer(0, k, 0));
            nothing("11 layer " + k, NO_SUCH, x -> done(() -> x.hollow(0, k, 0)));
            nothing("11 cell " + k, NO_SUCH, x -> done(() -> x.hollow(0, 1, k)));
        }
        nothing("7 layer 1 of wall 1", NO_SUCH, x -> x.cell(1, 1, 0, 0));
        nothing("7 cell 1 of wall 1", NO_SUCH, x -> x.cell(1, 0, 1, 0));
        nothing("8 layer 1 of wall 1", NO_SUCH, x -> x.layer(1, 1, 0));
        nothing("11 layer 1 of wall 1", NO_SUCH, x -> done(() -> x.hollow(1, 1, 0)));
        nothing("11 cell 1 of wall 1", NO_SUCH, x -> done(() -> x.hollow(1, 0, 1)));
    }

    private void noSuchWhat(String promise, int most, Check.CallOn atMost, java.util.function.BiFunction<MudWalls, Integer, Long> call) {
        check.due(promise + " the last what", 1, () -> Check.of(() -> atMost.answer(busy())) == NO_SUCH ? 0 : 1);
        for (int what : new int[] {MIN, -1, most + 1, MAX}) {
            nothing(promise + " what " + what, NO_SUCH, x -> call.apply(x, what));
        }
    }

    /** Promises 5 to 8, 17, 18, 23, 25: "another what", ahead of any number that is not as told. */
    private void noSuchWhat() {
        noSuchWhat("5", 11, x -> x.count(11), (x, k) -> (long) x.count(k));
        noSuchWhat("6", 11, x -> x.wall(0, 11), (x, k) -> (long) x.wall(0, k));
        noSuchWhat("7", 5, x -> x.cell(0, 0, 0, 5), (x, k) -> (long) x.cell(0, 0, 0, k));
        noSuchWhat("8", 3, x -> x.layer(0, 0, 3), (x, k) -> (long) x.layer(0, 0, k));
        noSuchWhat("17", 1, x -> x.turned(0, 1, 1, 1), (x, k) -> (long) x.turned(0, 1, 1, k));
        noSuchWhat("17 and weeks", 1, x -> x.turned(0, 1, 8, 1), (x, k) -> (long) x.turned(0, 1, 9, k));
        noSuchWhat("18", 2, x -> x.line(0, 1, 2), (x, k) -> (long) x.line(0, 1, k));
        noSuchWhat("18 and weeks", 2, x -> x.line(0, 520, 2), (x, k) -> (long) x.line(0, 521, k));
        noSuchWhat("23", 3, x -> x.mix(3), (x, k) -> (long) x.mix(k));
        noSuchWhat("25", 2, x -> x.first(0, 2), (x, k) -> (long) x.first(0, k));
        noSuchWhat("25 and coin", 2, x -> x.first(9999, 2), (x, k) -> (long) x.first(10000, k));
        nothing("17 both are one", NO_SUCH, x -> x.turned(0, 0, 1, 0));
        nothing("17 both are one, and weeks", NO_SUCH, x -> x.turned(1, 1, 9, 0));
    }

    /** Promises 16, 19, 21, 26, 28: no such week of the PLAN, WORK, WORK of the ORDER, GUESS. */
    private void noSuchPlace() {
        int planned = busy().plan(1, 2);
        for (int i : new int[] {MIN, -1, planned, 5, MAX}) {
            nothing("16 " + i, NO_SUCH, x -> x.planned(i));
        }
        for (int i : new int[] {MIN, -1, 2, 6, MAX}) {
            nothing("21 " + i, NO_SUCH, x -> x.ordered(i));
        }
        for (int k : new int[] {MIN, -1, 6, MAX}) {
            nothing("19 " + k, NO_SUCH, x -> done(() -> x.work(0, k)));
        }
        for (int g : new int[] {MIN, -1, 4, MAX}) {
            nothing("26 " + g, NO_SUCH, x -> done(() -> x.guess(g, 0)));
            nothing("28 " + g, NO_SUCH, x -> x.credit(g));
        }
    }

    /** Promises 12, 14, 15, 17, 18, 20, 25, 27: IllegalArgumentException, if a number is not as told. */
    private void numbersNotAsTold() {
        for (int k : new int[] {MIN, -1, 521, MAX}) {
            nothing("12 weeks " + k, ILLEGAL, x -> x.weeks(0, k));
            nothing("18 weeks " + k, ILLEGAL, x -> x.line(0, k, 0));
            nothing("27 layer " + k, ILLEGAL, x -> x.stick(k, 0, 200, 50));
            nothing("27 cell " + k, ILLEGAL, x -> x.stick(0, k, 200, 50));
            nothing("27 water " + k, ILLEGAL, x -> x.stick(0, 0, k, 50));
            nothing("27 slip " + k, ILLEGAL, x -> x.stick(0, 0, 200, k));
        }
        for (int k : new int[] {MIN, -1, 0, 25, MAX}) {
            nothing("14 layers " + k, ILLEGAL, x -> x.when(0, k));
            nothing("15 height " + k, ILLEGAL, x -> x.plan(0, k));
            nothing("17 weeks " + k, ILLEGAL, x -> x.turned(0, 1, k, 0));
        }
        nothing("14 layers 10", ILLEGAL, x -> x.when(0, 10));
        nothing("17 weeks 9", ILLEGAL, x -> x.turned(0, 1, 9, 0));
        nothing("18 weeks 0", ILLEGAL, x -> x.line(0, 0, 2));
        nothing("27 layer 24", ILLEGAL, x -> x.stick(24, 0, 200, 50));
        nothing("27 cell 6", ILLEGAL, x -> x.stick(0, 6, 200, 50));
        nothing("27 water 401", ILLEGAL, x -> x.stick(0, 0, 401, 50));
        nothing("27 slip 51", ILLEGAL, x -> x.stick(0, 0, 200, 51));
        for (int k : new int[] {MIN, -1, 64, MAX}) {
            nothing("20 works " + k, ILLEGAL, x -> x.order(0, k));
        }
        for (int k : new int[] {MIN, -1, 10000, MAX}) {
            nothing("25 coin " + k, ILLEGAL, x -> x.first(k, 0));
        }
    }

    /** Promise 15: "It is kept (NONE: what is kept stays)." */
    private void noPlanKeepsWhatIsKept() {
        nothing("15 none", NONE, x -> x.plan(1, 24));
        check.changesNothing("15 none, none kept", () -> layersOf(2), NONE, x -> x.plan(0, 24));
    }

    /** Promise 20: "It is kept (NONE: what is kept stays)." */
    private void noOrderKeepsWhatIsKept() {
        check.changesNothing("20 none", () -> sinking(true), NONE, x -> x.order(0, 3));
        check.changesNothing("20 none, none kept", () -> sinking(false), NONE, x -> x.order(0, 3));
    }

    /** Its foot falls within the next week, if it is not propped. */
    private static MudWalls sinking(boolean kept) {
        MudWalls x = Check.yard("earth 0 50 0;wall 1;week 0 0;");
        x.lift(0, 2);
        if (kept) {
            x.order(0, 12);
        }
        x.weeks(0, 5);
        return x;
    }

    /** Calls of the document that tell and change nothing. */
    private void askingChangesNothing() {
        nothing("4", 7, MudWalls::fault);
        nothing("5", 20, x -> x.count(5));
        nothing("6", 2, x -> x.wall(0, 0));
        nothing("7", 1, x -> x.cell(0, 0, 1, 2));
        nothing("8", 0, x -> x.layer(1, 0, 1));
        nothing("12 no weeks", 0, x -> x.weeks(0, 0));
        nothing("16", 1, x -> x.planned(0));
        nothing("21", 0, x -> x.ordered(0));
        nothing("23", 45, x -> x.mix(2));
        nothing("25", 25, x -> x.first(5, 0));
        nothing("28", 1, x -> x.credit(0));
        nothing("29", 0, MudWalls::where);
        Check.CallOn[] searches = {x -> x.high(0), x -> x.high(1), x -> x.when(0, 9), x -> x.when(1, 1), x -> x.turned(0, 1, 8, 0),
            x -> x.turned(1, 0, 8, 1), x -> x.line(0, 520, 0), x -> x.line(0, 520, 1), x -> x.line(0, 520, 2)};
        for (int k = 0; k < searches.length; k++) {
            long again = searches[k].answer(busy());
            nothing("search " + k, again, searches[k]);
        }
    }
}
