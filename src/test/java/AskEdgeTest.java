/**
 * The edges of HIGH, WHEN, PLAN, BY TURNS, SHOES, LETS, FOOT, WORKS and ORDER (==== 3. of the document, promises 13 to 21):
 * each method has the sentence above it that it would catch if it were broken. A fresh layer weighs 14 a cell.
 */
public final class AskEdgeTest {
    private static final long NO_SUCH = Check.NO_SUCH;
    private static final long ILLEGAL = Check.ILLEGAL;
    private static final int NONE = MudWalls.NONE;
    private static final int MIN = Integer.MIN_VALUE;
    private static final int MAX = Integer.MAX_VALUE;
    /** GREEN is 208: fifteen fresh layers bear one another, one more does not; dry ones bear all 24. */
    private static final String STRONG = "earth 0 0 99;wall 1 shoes 3 hat;wall 1 shoes 3 hat;";

    private final Check check = new Check();

    public static void main(String[] args) {
        AskEdgeTest t = new AskEdgeTest();
        t.highOfOneToNine();
        t.highNoMoreThan24();
        t.highIfAsMuchPresses();
        t.highIfOneSitsAlready();
        t.whenOfOneToNine();
        t.whenInWeek52();
        t.whenItFallsAheadOfThat();
        t.planToOneAndTo24();
        t.planOfNoWeeks();
        t.planOfFiveWeeks();
        t.planOfThreeLayersAWeek();
        t.planUpTo24();
        t.planWhereALiftSits();
        t.planWhereAWeekSits();
        t.planAheadOfAWetWeek();
        t.planHigherThanThat();
        t.plannedAtItsEnds();
        t.turnedOfOneToEight();
        t.turnedOfThreeAtMost();
        t.turnedOfNone();
        t.turnedFirstAsARow();
        t.turnedWithFalls();
        t.turnedOfOneWall();
        t.lineOfOneTo520();
        t.footInWeek520();
        t.footBehindManyRounds();
        t.footBehindAQuietFall();
        t.footFromPasteOn();
        t.footOfSomeCell();
        t.footOfNow();
        t.footThatIsNotThere();
        t.fewestShoes();
        t.leastLets();
        t.worksAtTheirEnds();
        t.orderOfNoWorks();
        t.orderOfEachAndOfAll();
        t.orderByWhichNothingFalls();
        t.orderOfLeastBulges();
        t.orderedAtItsEnds();
        t.check.end();
    }

    private void due(String what, long want, Check.Call call) {
        check.due(what, want, call);
    }

    private static MudWalls built(String text, int layers, int weeks) {
        MudWalls x = Check.yard(text);
        for (int left = layers; left > 0; left -= 9) {
            x.lift(0, Math.min(9, left));
        }
        x.weeks(0, weeks);
        return x;
    }

    /** WALL 0 of STRONG earth, hard from the foot up. */
    private static MudWalls hard(int layers) {
        MudWalls x = Check.yard(STRONG + "week 0 99;");
        for (int k = 0; k < layers; k++) {
            x.lift(0, 1);
            x.weeks(0, 2);
        }
        return x;
    }

    /** ==== 3.: "the most LAYERS (1 to 9 ..)": of GREEN 14 one more is borne, of 28 two .., of 112 eight. */
    private void highOfOneToNine() {
        int[] straw = {0, 1, 2, 8, 9, 15, 16, 22, 23, 50, 51, 58, 99};
        int[] high = {1, 1, 2, 2, 3, 3, 4, 4, 5, 8, 9, 9, 9};
        for (int k = 0; k < straw.length; k++) {
            int s = straw[k];
            due("13 straw " + s, high[k], () -> Check.yard("earth 0 50 " + s + ";wall 1;").high(0));
            due("13 straw " + s + ", six deep", high[k], () -> Check.yard("earth 0 50 " + s + ";wall 6;").high(0));
        }
    }

    /** ==== 3.: "no more than 24 in all". */
    private void highNoMoreThan24() {
        int[] layers = {0, 14, 15, 16, 17, 20, 22, 23, 24};
        int[] high = {9, 9, 9, 8, 7, 4, 2, 1, 0};
        for (int k = 0; k < layers.length; k++) {
            int n = layers[k];
            due("13 on " + n, high[k], () -> hard(n).high(0));
        }
    }

    /** ==== 3.: "no LAYER would SIT at once": as much as it bears may press. */
    private void highIfAsMuchPresses() {
        due("13 14 on 14", 1, () -> built("earth 0 50 2;wall 1;", 1, 0).high(0));
        due("13 14 on 12", 0, () -> built("earth 0 50 1;wall 1;", 1, 0).high(0));
        due("13 28 on 14", 0, () -> built("earth 0 50 2;wall 1;", 2, 0).high(0));
        due("13 28 on 28", 1, () -> built("earth 0 50 9;wall 1;", 2, 0).high(0));
        due("13 28 on 26", 0, () -> built("earth 0 50 8;wall 1;", 2, 0).high(0));
        MudWalls x = built("earth 0 50 3;wall 1;", 3, 0);
        due("13 28 on 16", 0, () -> x.high(0));
        x.work(0, 4);
        due("13 66: 28 and two more", 2, () -> x.high(0));
        // A hollow foot bears its prop alone, 50: three layers of 14.
        MudWalls y = built("earth 0 50 9;wall 1;", 1, 0);
        y.hollow(0, 0, 0);
        due("13 hollow", 0, () -> y.high(0));
        y.work(0, 4);
        due("13 hollow and propped", 3, () -> y.high(0));
    }

    /** ==== 3.: "0 if there are none such", also if a LAYER below SITS and the highest would bear more. */
    private void highIfOneSitsAlready() {
        MudWalls x = built(STRONG, 3, 0);
        due("13 as it is", 9, () -> x.high(0));
        x.hollow(0, 1, 0);
        due("13 the second sits", 0, () -> x.high(0));
        x.down(0);
        due("13 the second is the highest, and bears nothing", 0, () -> x.high(0));
        x.down(0);
        due("13 the foot bears", 9, () -> x.high(0));
    }

    /** ==== 3.: "WHEN n (1 to 9) LAYERS could be". */
    private void whenOfOneToNine() {
        MudWalls x = Check.yard(STRONG);
        for (int n = 1; n <= 9; n++) {
            int layers = n;
            due("14 now " + n, 0, () -> x.when(0, layers));
        }
        for (int n : new int[] {MIN, -1, 0, 10, 24, MAX}) {
            due("14 not " + n, ILLEGAL, () -> x.when(0, n));
        }
        MudWalls y = Check.yard("earth 0 50 2;wall 1;");
        due("14 two on the ground", 0, () -> y.when(0, 2));
        due("14 never three", NONE, () -> y.when(0, 3));
        due("14 never on 24", NONE, () -> hard(24).when(0, 1));
        due("14 one on 23", 0, () -> hard(23).when(0, 1));
        due("14 never two on 23", NONE, () -> hard(23).when(0, 2));
    }

    /** ==== 3.: "the least number of WEEKS (0 to 52)": 185 behind the first week of AIR, 173, which bears 19, behind the second. */
    private void whenInWeek52() {
        String text = "earth 10 50 0;wall 1;" + "week 0 0;".repeat(26) + "week 0 15;";
        for (int gone = 0; gone <= 4; gone++) {
            MudWalls x = built(text, 1, gone);
            due("14 " + (54 - gone) + " weeks", gone < 2 ? NONE : 54 - gone, () -> x.when(0, 1));
        }
        MudWalls x = built(text, 1, 53);
        due("14 one week", 1, () -> x.when(0, 1));
        x.weeks(0, 1);
        due("14 now", 0, () -> x.when(0, 1));
    }

    /** ==== 3.: "none, if the WALL FALLS ahead of that, too", even if on what is left so many could be. */
    private void whenItFallsAheadOfThat() {
        MudWalls x = built("earth 0 50 0;wall 1;week 0 0;", 2, 0);
        due("14 all falls in the sixth week", NONE, () -> x.when(0, 1));
        x.weeks(0, 6);
        due("14 on the ground it can be", 0, () -> x.when(0, 1));
        MudWalls y = built("earth 0 50 22;wall 1;week 0 0;", 4, 0);
        y.hollow(0, 1, 0);
        due("14 the second falls in the third week", NONE, () -> y.when(0, 1));
        y.weeks(0, 3);
        due("14 on the foot they can be", 0, () -> y.when(0, 3));
        // The fifth week of bulging is its last: the sixth dries it.
        MudWalls z = built("earth 10 50 0;wall 1;" + "week 0 0;".repeat(5) + "week 0 99;", 2, 0);
        due("14 dry just in time", 6, () -> z.when(0, 1));
        MudWalls late = built("earth 10 50 0;wall 1;" + "week 0 0;".repeat(6) + "week 0 99;", 2, 0);
        due("14 dry a week too late", NONE, () -> late.when(0, 1));
    }

    /** ==== 3.: "A PLAN to a height (1 to 24)". */
    private void planToOneAndTo24() {
        MudWalls x = hard(21);
        for (int height : new int[] {MIN, -1, 0, 25, MAX}) {
            due("15 not to " + height, ILLEGAL, () -> x.plan(0, height));
        }
        due("15 to 1", 0, () -> x.plan(0, 1));
        due("15 to 24", 1, () -> x.plan(0, 24));
        due("15 to 1 from the ground", 1, () -> x.plan(1, 1));
        due("15 never to 24 from the ground", NONE, () -> x.plan(1, 24));
    }

    /** Promise 15: "how many weeks (0: it is as high already)": it is kept, and has no week. */
    private void planOfNoWeeks() {
        MudWalls x = hard(3);
        due("15 to 4", 1, () -> x.plan(0, 4));
        due("16 to 4", 1, () -> x.planned(0));
        due("15 as high", 0, () -> x.plan(0, 3));
        due("16 nothing", NO_SUCH, () -> x.planned(0));
        x.plan(0, 4);
        due("15 higher", 0, () -> x.plan(0, 2));
        due("16 nothing again", NO_SUCH, () -> x.planned(0));
        // As high already, though its foot sits.
        MudWalls y = built("earth 0 50 0;wall 1;", 2, 0);
        due("15 it sits", 0, () -> y.plan(0, 2));
        due("15 it sits, no higher", NONE, () -> y.plan(0, 3));
    }

    private void plan(String what, MudWalls x, int wall, int height, int... row) {
        due("15 " + what, row.length == 0 ? NONE : row.length, () -> x.plan(wall, height));
        for (int k = 0; k < row.length; k++) {
            int week = k;
            due("16 " + what + " week " + k, row[k], () -> x.planned(week));
        }
        if (row.length > 0) {
            due("16 " + what + " no more", NO_SUCH, () -> x.planned(row.length));
        }
    }

    /** ==== 3.: "for at most 5 weeks", "the fewest weeks": 193, 187, 181, 176 bear 15 behind four; by less AIR 11. */
    private void planOfFiveWeeks() {
        plan("four weeks", built("earth 10 50 0;wall 1;week 0 9;", 1, 0), 0, 2, 0, 0, 0, 1);
        plan("five weeks", built("earth 10 50 0;wall 1;week 0 7;", 1, 0), 0, 2, 0, 0, 0, 0, 1);
        plan("six weeks", built("earth 10 50 0;wall 1;week 0 6;", 1, 0), 0, 2);
        MudWalls x = built("earth 10 50 0;wall 1;week 0 6;", 1, 1);
        plan("five of the six", x, 0, 2, 0, 0, 0, 0, 1);
    }

    /** ==== 3.: "a LIFT of 0 to 3 LAYERS", "of like ones the first as a row". */
    private void planOfThreeLayersAWeek() {
        MudWalls x = Check.yard(STRONG + "week 0 0;");
        plan("1", x, 0, 1, 1);
        plan("2", x, 0, 2, 2);
        plan("3", x, 0, 3, 3);
        plan("4", x, 0, 4, 1, 3);
        plan("5", x, 0, 5, 2, 3);
        plan("6", x, 0, 6, 3, 3);
        plan("7", x, 0, 7, 1, 3, 3);
        plan("12", x, 0, 12, 3, 3, 3, 3);
        plan("13", x, 0, 13, 1, 3, 3, 3, 3);
        plan("15", x, 0, 15, 3, 3, 3, 3, 3);
        plan("16", x, 0, 16);
        due("16 none: what is kept stays", 3, () -> x.planned(4));
    }

    /** ==== 3.: LAYERS "at most 24": no LIFT of a PLAN goes above, and 24 are reached. */
    private void planUpTo24() {
        plan("16 more", hard(8), 0, 24);
        plan("15 more", hard(9), 0, 24, 3, 3, 3, 3, 3);
        plan("14 more", hard(10), 0, 24, 2, 3, 3, 3, 3);
        plan("3 more", hard(21), 0, 24, 3);
        plan("2 more", hard(22), 0, 24, 2);
        plan("1 more", hard(23), 0, 24, 1);
        due("15 none more", 0, () -> hard(24).plan(0, 24));
        MudWalls x = hard(23);
        x.hollow(0, 22, 0);
        plan("a highest one that bears nothing", x, 0, 24);
    }

    /** ==== 3.: "no LAYER may SIT behind a LIFT": two fresh ones would, though behind the week they would not. */
    private void planWhereALiftSits() {
        plan("one by one", Check.yard("earth 10 50 0;wall 1;week 0 99;"), 0, 2, 1, 1);
        MudWalls x = built("earth 10 50 0;wall 1;week 0 99;", 2, 0);
        due("8 sits", 1, () -> x.layer(0, 0, 3));
        x.weeks(0, 1);
        due("8 sits no more", 0, () -> x.layer(0, 0, 3));
        plan("14 on 14 at once", Check.yard("earth 0 50 2;wall 1;week 0 0;"), 0, 2, 2);
        plan("14 on 12 never", Check.yard("earth 0 50 1;wall 1;week 0 0;"), 0, 2);
    }

    /** ==== 3.: ".. or behind a WEEK": the foot of 160 bears 36 ahead of the rain, of 243 it bears 10. */
    private void planWhereAWeekSits() {
        plan("by a dry week", built("earth 10 50 0;wall 1 ground 20;week 0 50;week 0 50;", 1, 1), 0, 2, 1);
        MudWalls x = built("earth 10 50 0;wall 1 ground 20;week 0 50;week 99 0;", 1, 1);
        due("7 the foot", 160, () -> x.cell(0, 0, 0, 0));
        due("13 one could be now", 1, () -> x.high(0));
        plan("by a wet week", x, 0, 2);
        x.lift(0, 1);
        due("8 it doesn't sit behind the lift", 0, () -> x.layer(0, 0, 3));
        x.weeks(0, 1);
        due("7 the foot behind the rain", 243, () -> x.cell(0, 0, 0, 0));
        due("8 it sits behind the week", 1, () -> x.layer(0, 0, 3));
    }

    /** ==== 3.: "behind the last WEEK, it is as high as that": what the weeks behind that would do doesn't count. */
    private void planAheadOfAWetWeek() {
        String text = "earth 10 50 0;wall 1 ground 20;week 0 50;week 0 50;week 99 0;";
        plan("ahead of a wet week", built(text, 1, 1), 0, 2, 1);
        MudWalls x = built(text, 1, 1);
        x.lift(0, 1);
        x.weeks(0, 1);
        due("8 it doesn't sit", 0, () -> x.layer(0, 0, 3));
        x.weeks(0, 1);
        due("8 it sits behind the wet week", 1, () -> x.layer(0, 0, 3));
    }

    /** Whether a row of lifts may be followed by lift(), layer() and weeks() alone; how high it is then, or NONE. */
    private static int followed(MudWalls x, int[] row) {
        for (int lift : row) {
            if (lift > 0 && x.lift(0, lift) == NONE || sits(x)) {
                return NONE;
            }
            x.weeks(0, 1);
            if (sits(x)) {
                return NONE;
            }
        }
        return x.wall(0, 1);
    }

    private static boolean sits(MudWalls x) {
        for (int l = 0; l < x.wall(0, 1); l++) {
            if (x.layer(0, l, 3) == 1) {
                return true;
            }
        }
        return false;
    }

    /** The first row of so many weeks, of all there are, by which it is as high; null without. */
    private static int[] firstRow(Check.Scene scene, int weeks, int height) {
        for (int code = 0; code < 1 << 2 * weeks; code++) {
            int[] row = new int[weeks];
            for (int k = 0; k < weeks; k++) {
                row[k] = code >> 2 * (weeks - 1 - k) & 3;
            }
            if (followed(scene.make(), row) >= height) {
                return row;
            }
        }
        return null;
    }

    /** ==== 3.: "it is as high as that or higher": where one layer less would sit behind the last, wet week. */
    private void planHigherThanThat() {
        Check.Scene scene = () -> built("earth 28 50 2;wall 2;week 0 50;week 84 42;week 0 52 frost;", 2, 3);
        for (int height = 1; height <= 6; height++) {
            int[] row = null;
            for (int weeks = 1; weeks <= 5 && row == null && height > 2; weeks++) {
                row = firstRow(scene, weeks, height);
            }
            if (height > 2) {
                plan("to " + height, scene.make(), 0, height, row == null ? new int[0] : row);
            }
        }
        plan("to 4, by 5", scene.make(), 0, 4, 0, 1, 0, 0, 2);
        due("15 five layers", 5, () -> followed(scene.make(), new int[] {0, 1, 0, 0, 2}));
        due("15 four would sit", NONE, () -> followed(scene.make(), new int[] {0, 1, 0, 0, 1}));
    }

    /** Promise 16: "The LIFT of the i-th week of the PLAN that is kept. NoSuchElementException: there is none." */
    private void plannedAtItsEnds() {
        MudWalls x = Check.yard(STRONG + "week 0 0;");
        for (int i : new int[] {MIN, -1, 0, 1, 4, 5, MAX}) {
            due("16 none is kept: " + i, NO_SUCH, () -> x.planned(i));
        }
        x.plan(0, 13);
        due("16 the first", 1, () -> x.planned(0));
        due("16 the last", 3, () -> x.planned(4));
        for (int i : new int[] {MIN, -1, 5, 6, MAX}) {
            due("16 no such week: " + i, NO_SUCH, () -> x.planned(i));
        }
        x.plan(0, 2);
        due("16 the later one", 2, () -> x.planned(0));
        due("16 has one week", NO_SUCH, () -> x.planned(1));
        due("15 nothing is put up by it", 0, () -> x.wall(0, 1));
    }

    private void turned(String what, MudWalls x, int weeks, int built, int row) {
        due("17 layers, " + what, built, () -> x.turned(0, 1, weeks, 0));
        due("17 row, " + what, row, () -> x.turned(0, 1, weeks, 1));
    }

    /** ==== 3.: "two WALLS, so many weeks (1 to 8)". Fifteen fresh ones are the most on one. */
    private void turnedOfOneToEight() {
        MudWalls x = Check.yard(STRONG + "week 0 0;");
        for (int weeks = 1; weeks <= 8; weeks++) {
            turned(weeks + " weeks", x, weeks, 3 * weeks, weeks <= 5 ? 0 : (1 << weeks) - 32);
        }
        for (int weeks : new int[] {MIN, -1, 0, 9, MAX}) {
            due("17 not " + weeks, ILLEGAL, () -> x.turned(0, 1, weeks, 0));
            due("17 not " + weeks + ", row", ILLEGAL, () -> x.turned(0, 1, weeks, 1));
        }
        for (int what : new int[] {MIN, -1, 2, MAX}) {
            due("17 no what " + what, NO_SUCH, () -> x.turned(0, 1, 1, what));
            due("17 no what " + what + ", ahead of weeks", NO_SUCH, () -> x.turned(0, 1, 0, what));
        }
        due("17 nothing is put up by it", 0, () -> x.count(6));
        due("17 no week goes by", 0, () -> x.wall(0, 8) + x.wall(1, 8));
    }

    /** ==== 3.: "as many LAYERS as it may have by HIGH, at most 3". */
    private void turnedOfThreeAtMost() {
        int[] straw = {0, 1, 2, 8, 9, 15, 16, 99};
        int[] most = {1, 1, 2, 2, 3, 3, 3, 3};
        for (int k = 0; k < straw.length; k++) {
            turned("straw " + straw[k], Check.yard("earth 0 50 " + straw[k] + ";wall 1;wall 2;week 0 0;"), 1, most[k], 0);
        }
        MudWalls x = hard(22);
        turned("two under 24", x, 1, 3, 1);
        due("17 two under 24, the other one first", 3, () -> x.turned(1, 0, 1, 0));
        // The second one, propped, bears 9 at once, the first has room for one: three of the second each week.
        MudWalls y = hard(23);
        y.work(1, 4);
        turned("one under 24", y, 5, 15, 31);
    }

    /** ==== 3.: "(perhaps 0)". */
    private void turnedOfNone() {
        MudWalls x = Check.yard("earth 0 50 0;wall 1;wall 1;week 0 0;");
        x.lift(0, 1);
        x.lift(1, 1);
        for (int weeks = 1; weeks <= 8; weeks++) {
            turned("none in " + weeks, x, weeks, 0, 0);
        }
    }

    /** ==== 3.: "of like ones the first as a row, the first WALL being less": one layer of the second, as late as can be. */
    private void turnedFirstAsARow() {
        MudWalls x = Check.yard("earth 0 50 0;wall 1;wall 1;week 0 0;");
        turned("one each", x, 2, 2, 2);
        turned("one each, in the last week", x, 8, 2, 128);
        x.lift(0, 1);
        turned("the second alone", x, 8, 1, 128);
        due("17 the first alone", 1, () -> x.turned(1, 0, 8, 0));
        due("17 the first alone, row", 0, () -> x.turned(1, 0, 8, 1));
        turned("the second alone, one week", x, 1, 1, 1);
    }

    /** ==== 3.: "(those that FALL count, too)": both are followed by lift(), high() and weeks(). */
    private void turnedWithFalls() {
        String[] texts = {"earth 19 50 2;wall 1;wall 2 shoes 3;week 70 28;week 0 0 frost;", "earth 25 50 4;wall 1;wall 2 shoes 3;week 0 0 frost;"};
        int[] falls = {3, 2};
        for (int k = 0; k < texts.length; k++) {
            String text = texts[k];
            turned(text, Check.yard(text), 8, 8, 130);
            int best = NONE;
            int bestRow = 0;
            for (int code = 0; code < 256; code++) {
                int row = Integer.reverse(code) >>> 24;
                int built = followedByTurns(Check.yard(text), row, 8);
                if (built > best) {
                    best = built;
                    bestRow = row;
                }
            }
            check.same("17 most of all rows", 8, best);
            check.same("17 the first of them", 130, bestRow);
            MudWalls x = Check.yard(text);
            followedByTurns(x, 130, 8);
            due("12 falls by it", falls[k], () -> x.wall(0, 10) + x.wall(1, 10));
            due("6 fewer stand than were put up", 1, () -> x.wall(0, 1) + x.wall(1, 1) < 8 ? 1 : 0);
        }
    }

    private static int followedByTurns(MudWalls x, int row, int weeks) {
        int built = 0;
        for (int k = 0; k < weeks; k++) {
            int wall = row >> k & 1;
            int more = Math.min(3, x.high(wall));
            built += more;
            if (more > 0) {
                x.lift(wall, more);
            }
            x.weeks(0, 1);
            x.weeks(1, 1);
        }
        return built;
    }

    /** Promise 17: "NoSuchElementException: also both are one". */
    private void turnedOfOneWall() {
        MudWalls x = Check.yard("wall 1;wall 1;wall 1;wall 1;");
        for (int w = 0; w < 4; w++) {
            for (int v = 0; v < 4; v++) {
                int one = w;
                int two = v;
                due("17 " + w + " and " + v, w == v ? NO_SUCH : 2, () -> x.turned(one, two, 1, 0));
            }
        }
        due("17 no wall 4", NO_SUCH, () -> x.turned(4, 0, 1, 0));
        due("17 no other 4", NO_SUCH, () -> x.turned(0, 4, 1, 0));
        due("17 neither", NO_SUCH, () -> x.turned(4, 4, 1, 0));
        due("17 no wall -1", NO_SUCH, () -> x.turned(-1, 0, 1, 0));
        due("17 no other -1", NO_SUCH, () -> x.turned(0, -1, 1, 0));
    }

    /** ==== 3.: "for so many weeks (1 to 520)". */
    private void lineOfOneTo520() {
        MudWalls x = built("wall 1 shoes 3 hat;week 0 99;", 1, 0);
        long[] want = {0, 0, NONE};
        for (int k = 0; k < 3; k++) {
            int what = k;
            due("18 one week, what " + k, want[k], () -> x.line(0, 1, what));
            due("18 520 weeks, what " + k, want[k], () -> x.line(0, 520, what));
            for (int weeks : new int[] {MIN, -1, 0, 521, MAX}) {
                due("18 not " + weeks + ", what " + k, ILLEGAL, () -> x.line(0, weeks, what));
            }
        }
        for (int what : new int[] {MIN, -1, 3, MAX}) {
            due("18 no what " + what, NO_SUCH, () -> x.line(0, 1, what));
            due("18 no what " + what + ", ahead of weeks", NO_SUCH, () -> x.line(0, 0, what));
        }
        due("18 no week goes by", 0, () -> x.wall(0, 8));
    }

    /** A dry foot under 21 wet, hollow layers: nothing presses, and an eighth after the other comes down to it. */
    private static MudWalls seeping() {
        MudWalls x = Check.yard("wall 1 shoes 3 outer 0 inner 0;" + "week 0 90;".repeat(3) + "week 99 0;".repeat(5));
        x.lift(0, 1);
        x.weeks(0, 3);
        x.lift(0, 9);
        x.lift(0, 9);
        x.lift(0, 3);
        for (int layer = 0; layer < 22; layer++) {
            x.hollow(0, layer, 0);
        }
        return x;
    }

    /** ==== 3.: FOOT: "the first of these weeks": the 520th is one of them. */
    private void footInWeek520() {
        MudWalls x = seeping();
        due("18 foot in 520", 520, () -> x.line(0, 520, 2));
        due("18 not in 519", NONE, () -> x.line(0, 519, 2));
        due("18 shoes don't help in 520", NONE, () -> x.line(0, 520, 0));
        due("18 none are needed for 519", 0, () -> x.line(0, 519, 0));
        due("18 a coat for 520", 10, () -> x.line(0, 520, 1));
        due("18 one that lets nothing for 519", 0, () -> x.line(0, 519, 1));
        x.weeks(0, 519);
        due("7 no paste behind 519", 179, () -> x.cell(0, 0, 0, 0));
        due("18 the next one", 1, () -> x.line(0, 1, 2));
        x.weeks(0, 1);
        due("7 paste behind 520", 180, () -> x.cell(0, 0, 0, 0));
    }

    /** ==== 3.: "the first of these weeks", though a week, or a round of them, seems to do nothing to it. */
    private void footBehindManyRounds() {
        // Coats that let nothing, and then the outer one off: 136, 156, 169, 177, 182.
        MudWalls x = built("wall 1 hat outer 0;week 99 35;", 1, 40);
        due("18 never behind its coat", NONE, () -> x.line(0, 520, 2));
        x.work(0, 0);
        due("18 in the fifth week", 5, () -> x.line(0, 520, 2));
        due("18 in the fifth of five", 5, () -> x.line(0, 5, 2));
        due("18 in none of four", NONE, () -> x.line(0, 4, 2));
        // Three weeks do nothing to it: 109, 147, 177, 201 behind each fourth.
        MudWalls w = built("wall 1 hat outer 0;week 0 0;week 0 0;week 0 0;week 99 20;", 1, 400);
        due("7 dry behind its coat", 109, () -> w.cell(0, 0, 0, 0));
        w.work(0, 0);
        due("18 in the twelfth week", 12, () -> w.line(0, 520, 2));
        due("18 in none of eleven", NONE, () -> w.line(0, 11, 2));
        // 119, 162, 200: asked twice, it is the same.
        MudWalls v = built("wall 1 hat outer 0;week 0 0;week 0 0;week 0 0;week 99 10;", 1, 400);
        v.work(0, 0);
        due("18 in the eighth week", 8, () -> v.line(0, 520, 2));
        due("18 in the eighth week again", 8, () -> v.line(0, 520, 2));
        // The foot stays while the layers above it are wetted, one after the other.
        MudWalls y = seeping();
        y.weeks(0, 8);
        due("18 from above", 512, () -> y.line(0, 520, 2));
        // What is on it bulges and falls in the third week; it is paste later.
        MudWalls z = built("earth 0 50 0;wall 1 hat outer 0;week 40 20;", 1, 300);
        z.lift(0, 4);
        z.work(0, 0);
        int foot = z.line(0, 520, 2);
        due("12 nothing falls in two weeks", 0, () -> z.weeks(0, 2));
        due("12 it falls in the third", 1, () -> z.weeks(0, 1));
        due("6 down to the foot", 1, () -> z.wall(0, 1));
        int week = 3;
        while (week < 520 && z.cell(0, 0, 0, 0) < 180) {
            week++;
            z.weeks(0, 1);
        }
        check.same("18 behind the fall", week, foot);
        check.same("18 later than the fall", 12, foot);
    }

    /** ==== 3.: FOOT, where for weeks nothing changes but a BULGE: the wall falls down to its foot, which is rained on then. */
    private void footBehindAQuietFall() {
        MudWalls x = built("earth 50 50 20;wall 1 shoes 3;week 50 30;", 3, 200);
        int before = x.cell(0, 0, 0, 0);
        due("18 never, as it stands", NONE, () -> x.line(0, 520, 2));
        x.hollow(0, 1, 0);
        int foot = x.line(0, 520, 2);
        due("12 nothing falls in two weeks", 0, () -> x.weeks(0, 2));
        due("12 it falls in the third", 1, () -> x.weeks(0, 1));
        due("6 down to the foot", 1, () -> x.wall(0, 1));
        due("7 as wet as ever", before, () -> x.cell(0, 0, 0, 0));
        int week = 3;
        while (week < 520 && x.cell(0, 0, 0, 0) < 180) {
            week++;
            x.weeks(0, 1);
        }
        check.same("18 paste behind the fall", week, foot);
        check.same("18 it is", 1, x.cell(0, 0, 0, 0) >= 180 ? 1 : 0);
    }

    /** ==== 3.: "some CELL of the foot is PASTE": 180 is, 179 is not. */
    private void footFromPasteOn() {
        due("18 180", 1, () -> built("wall 1 shoes 3 hat;week 0 20;", 1, 0).line(0, 1, 2));
        due("18 179", NONE, () -> built("wall 1 shoes 3 hat;week 0 21;", 1, 0).line(0, 520, 2));
        // 179, and a drop each other week: 180 in the second.
        due("18 179, 180", 2, () -> built("wall 1 shoes 3;week 0 21;week 1 0;", 1, 0).line(0, 520, 2));
        due("18 179, not yet", NONE, () -> built("wall 1 shoes 3;week 0 21;week 1 0;", 1, 0).line(0, 1, 2));
    }

    /** ==== 3.: "some CELL", the innermost alone; and of the foot alone, not of a LAYER above it. */
    private void footOfSomeCell() {
        due("18 180 within", 1, () -> built("wall 2 shoes 3 hat inner 0;week 0 83;", 1, 0).line(0, 1, 2));
        due("18 179 within", NONE, () -> built("wall 2 shoes 3 hat inner 0;week 0 84;", 1, 0).line(0, 1, 2));
        due("18 the middle of three", 1, () -> built("wall 3 shoes 3 hat;week 0 83;", 1, 0).line(0, 1, 2));
        MudWalls x = built("wall 1 shoes 3 hat outer 0 inner 0;week 0 99;week 0 0;", 1, 1);
        x.lift(0, 1);
        due("7 the foot", 176, () -> x.cell(0, 0, 0, 0));
        due("18 a wet layer on it", NONE, () -> x.line(0, 1, 2));
        x.weeks(0, 1);
        due("7 paste above", 197, () -> x.cell(0, 1, 0, 0));
        due("7 none below", 179, () -> x.cell(0, 0, 0, 0));
    }

    /** ==== 3.: "(that of now doesn't count)". */
    private void footOfNow() {
        MudWalls x = built("wall 1 shoes 3 hat;week 0 99;", 1, 0);
        due("7 paste now", 2, () -> x.cell(0, 0, 0, 5));
        due("18 never", NONE, () -> x.line(0, 520, 2));
        due("18 no shoes", 0, () -> x.line(0, 520, 0));
        due("18 lets nothing", 0, () -> built("wall 1 shoes 3 hat;week 0 99;", 1, 0).line(0, 1, 1));
    }

    /** ==== 3.: "A WALL that FALLS to the ground meanwhile: its foot isn't there (no CELL is)"; nor is that of a bare one. */
    private void footThatIsNotThere() {
        String text = "earth 0 50 20;wall 1 ground 10 hat;week 0 99;" + "week 0 0;".repeat(29);
        MudWalls x = built(text, 1, 1);
        x.lift(0, 1);
        due("18 it stands", 6, () -> x.line(0, 20, 2));
        x.hollow(0, 0, 0);
        due("18 it falls in the third week", NONE, () -> x.line(0, 20, 2));
        due("18 no shoes, if it falls", 0, () -> x.line(0, 20, 0));
        due("18 lets nothing, if it falls", 0, () -> x.line(0, 20, 1));
        due("12 so it does", 1, () -> x.weeks(0, 3));
        due("18 bare", NONE, () -> x.line(0, 520, 2));
        due("18 bare, shoes", 0, () -> x.line(0, 520, 0));
        due("18 bare, lets", 0, () -> x.line(0, 520, 1));
        // Neither has a bare wall what another one, or one of an earlier yard, has.
        MudWalls z = Check.yard("wall 2;wall 1;week 0 0;");
        z.lift(0, 1);
        due("18 the other's is paste", 1, () -> z.line(0, 520, 2));
        due("18 a bare one beside it", NONE, () -> z.line(1, 520, 2));
        due("18 a bare one beside it, shoes", 0, () -> z.line(1, 520, 0));
        Check.tell(z, "wall 1 shoes 3 hat;week 0 99;");
        z.lift(0, 1);
        due("18 its one cell is dry, though there were two", NONE, () -> z.line(0, 1, 2));
        // What falls down to the foot leaves it there.
        MudWalls y = built(text, 1, 1);
        y.lift(0, 2);
        y.hollow(0, 1, 0);
        due("12 it falls down to the foot", 1, () -> {
            y.image();
            int falls = y.weeks(0, 3);
            due("6 the foot is left", 1, () -> y.wall(0, 1));
            y.restore();
            return falls;
        });
        due("18 and is paste later on", 1, () -> y.line(0, 20, 2) > 3 ? 1 : 0);
    }

    /** ==== 3.: "the fewest 'shoes' (0 to 9)": 220, 213, 206, 200 behind rain and ground, and AIR that dries them below 180 or not. */
    private void fewestShoes() {
        int[] airs = {99, 35, 34, 31, 30, 26, 25, 21, 20, 0};
        int[] shoes = {0, 0, 1, 1, 2, 2, 3, 3, NONE, NONE};
        for (int k = 0; k < airs.length; k++) {
            int air = airs[k];
            due("18 air " + air, shoes[k], () -> built("wall 1 ground 20;week 0 " + air + ";", 1, 0).line(0, 1, 0));
            due("18 air " + air + ", told 9", shoes[k], () -> built("wall 1 ground 20 shoes 9;week 0 " + air + ";", 1, 0).line(0, 1, 0));
        }
    }

    /** ==== 3.: "LETS likewise of the outer COAT: the least of 0, 10 .. 100". AIR by (100 and lets) must be 4,200 or more. */
    private void leastLets() {
        int[] airs = {99, 42, 41, 39, 38, 35, 34, 33, 32, 30, 29, 28, 27, 26, 25, 24, 23, 22, 21, 20, 0};
        int[] lets = {0, 0, 10, 10, 20, 20, 30, 30, 40, 40, 50, 50, 60, 70, 70, 80, 90, 100, 100, NONE, NONE};
        for (int k = 0; k < airs.length; k++) {
            int air = airs[k];
            for (int outer : new int[] {0, 55, 100}) {
                String text = "wall 1 shoes 3 hat outer " + outer + ";week 0 " + air + ";";
                due("18 air " + air + " outer " + outer, lets[k], () -> built(text, 1, 0).line(0, 1, 1));
            }
        }
    }

    /** Promise 19: "A WORK (0 to 5) is done now"; ==== 3.: "'shoes' 3 more (9 at most)". */
    private void worksAtTheirEnds() {
        for (int shoes = 0; shoes <= 9; shoes++) {
            MudWalls x = Check.yard("wall 1 shoes " + shoes + ";");
            check.dueOf("19 shoes", 0, () -> x.work(0, 3));
            due("6 shoes from " + shoes, Math.min(9, shoes + 3), () -> x.wall(0, 3));
        }
        MudWalls x = Check.yard("wall 1 ground 20 outer 0 inner 0;wall 1;");
        for (int work : new int[] {MIN, -1, 6, 7, MAX}) {
            check.dueOf("19 no work " + work, NO_SUCH, () -> x.work(0, work));
        }
        // Done twice, or where it is so already, it is the same.
        for (int work = 0; work < 12; work++) {
            int k = work % 6;
            check.dueOf("19 work " + k, 0, () -> x.work(0, k));
            check.dueOf("19 work " + k + " of the other", 0, () -> x.work(1, k));
        }
        long[] want = {1, 0, 0, 6, 1, 100, 100, 1, 0};
        for (int k = 0; k < want.length; k++) {
            int what = k;
            due("6 behind all works, " + k, want[k], () -> x.wall(0, what));
            due("6 behind all works of the other, " + k, want[k], () -> x.wall(1, what));
        }
    }

    /** Promise 20: bits 0 to 63: none of them is an ORDER, too: BULGES as they are. */
    private void orderOfNoWorks() {
        MudWalls x = built("earth 0 50 0;wall 1;wall 1;week 0 0;", 2, 0);
        x.order(1, 2);
        due("21 one is kept", 1, () -> x.ordered(0));
        for (int weeks = 0; weeks <= 5; weeks++) {
            due("20 no works behind " + weeks, weeks, () -> x.order(0, 0));
            due("21 it is kept", NO_SUCH, () -> x.ordered(0));
            x.weeks(0, 1);
        }
        due("20 no works, nothing there", 0, () -> x.order(0, 0));
        for (int works : new int[] {MIN, -1, 64, 127, MAX}) {
            due("20 not " + works, ILLEGAL, () -> x.order(0, works));
        }
    }

    /** Promises 20, 21: each WORK alone; all six, of which none is better first: 0 to 5. */
    private void orderOfEachAndOfAll() {
        MudWalls x = built("wall 1;", 1, 0);
        for (int set = 0; set < 64; set++) {
            int works = set;
            due("20 " + set, 0, () -> x.order(0, works));
            int i = 0;
            for (int k = 0; k < 6; k++) {
                if ((set >> k & 1) == 1 && (set < 8 || set > 60 || set == 16)) {
                    int at = i;
                    due("21 " + set + " " + i, k, () -> x.ordered(at));
                    i++;
                }
            }
        }
        due("20 of a bare wall", 0, () -> Check.yard("wall 1;").order(0, 63));
    }

    /** ==== 3.: "by which no LAYER FALLS", in the last week neither. The foot has 5: a prop first, or it falls. */
    private void orderByWhichNothingFalls() {
        MudWalls x = built("earth 0 50 0;wall 1;week 0 0;", 2, 4);
        due("20 four, and one", 5, () -> x.order(0, 1));
        due("20 four, and two: it falls in the last week", NONE, () -> x.order(0, 3));
        due("21 what was kept stays", 0, () -> x.ordered(0));
        due("21 and no more", NO_SUCH, () -> x.ordered(1));
        due("20 four, and one, then propped", 4, () -> x.order(0, 17));
        x.weeks(0, 1);
        due("20 five", 5, () -> x.order(0, 0));
        due("20 five, and one", NONE, () -> x.order(0, 1));
        due("20 five, propped", 5, () -> x.order(0, 16));
        due("20 five, propped first", 5, () -> x.order(0, 63));
        long[] row = {4, 0, 1, 2, 3, 5};
        for (int k = 0; k < 6; k++) {
            int i = k;
            due("21 propped first " + k, row[k], () -> x.ordered(i));
        }
    }

    /** ==== 3.: "BULGES of all LAYERS together are least behind the last; of like ones the first as a row." */
    private void orderOfLeastBulges() {
        MudWalls x = built("earth 0 50 0;wall 1;week 0 0;", 3, 0);
        due("20 foot 2, second 1", 3, () -> x.order(0, 1));
        due("20 twice", 6, () -> x.order(0, 3));
        due("20 thrice: it falls", NONE, () -> x.order(0, 7));
        due("20 propped", 0, () -> x.order(0, 16));
        due("20 propped first", 0, () -> x.order(0, 23));
        long[] row = {4, 0, 1, 2};
        for (int k = 0; k < 4; k++) {
            int i = k;
            due("21 " + k, row[k], () -> x.ordered(i));
        }
        due("21 no fifth", NO_SUCH, () -> x.ordered(4));
        due("20 nothing is done by it", 0, () -> x.wall(0, 7));
        due("20 no week goes by", 0, () -> x.wall(0, 8));
        due("20 nothing bulges by it", 0, () -> x.layer(0, 0, 2));
    }

    /** Promise 21: "The i-th WORK of the ORDER that is kept. NoSuchElementException: there is none." */
    private void orderedAtItsEnds() {
        MudWalls x = built("wall 1;", 1, 0);
        for (int i : new int[] {MIN, -1, 0, 5, 6, MAX}) {
            due("21 none is kept: " + i, NO_SUCH, () -> x.ordered(i));
        }
        x.order(0, 63);
        due("21 the first", 0, () -> x.ordered(0));
        due("21 the last", 5, () -> x.ordered(5));
        for (int i : new int[] {MIN, -1, 6, 7, MAX}) {
            due("21 no such: " + i, NO_SUCH, () -> x.ordered(i));
        }
        x.order(0, 32);
        due("21 the later one", 5, () -> x.ordered(0));
        due("21 has one work", NO_SUCH, () -> x.ordered(1));
    }
}
