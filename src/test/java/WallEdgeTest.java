/**
 * The edges of CELLS, LAYERS, LIFTS and WEEKS (==== 2. of the document, promises 6 to 12): each method has the sentence above
 * it that it would catch if it were broken. One fresh cell alone, without rain, dries by AIR: 200 less AIR.
 */
public final class WallEdgeTest {
    private static final long NO_SUCH = Check.NO_SUCH;
    private static final long ILLEGAL = Check.ILLEGAL;
    private static final int MIN = Integer.MIN_VALUE;
    private static final int MAX = Integer.MAX_VALUE;

    private final Check check = new Check();

    public static void main(String[] args) {
        WallEdgeTest t = new WallEdgeTest();
        t.suchWalls();
        t.suchLayersAndCells();
        t.noneAtFirst();
        t.liftsOfOneToNine();
        t.at24Layers();
        t.freshLayers();
        t.pasteAndHard();
        t.strengthByWater();
        t.strengthIsCutDown();
        t.halfIfCracked();
        t.nothingIfHollow();
        t.loadByWater();
        t.whatPressesOnEach();
        t.propBearsFifty();
        t.sitsIfMorePresses();
        t.downToTheGround();
        t.downTakesAllWithIt();
        t.hollowAtItsEnds();
        t.rainOnTheHighest();
        t.rainFromBeside();
        t.rainThroughTheCoat();
        t.waterFromTheGround();
        t.waterAtMost400();
        t.movesSideBySide();
        t.movesUpAndDown();
        t.movesByWaterAsItIsThen();
        t.driesByWhereItIs();
        t.driesByTheInnerCoat();
        t.driesByTheOuterCoat();
        t.dryIsCutDown();
        t.rainThenMovesThenDries();
        t.frostOnPaste();
        t.frostOnTheOutermost();
        t.shrinkAbove60();
        t.lessThan150();
        t.crackedStays();
        t.bulgeOfOneAndOfTwo();
        t.bulgeWithoutStrength();
        t.bulgeOfSix();
        t.bulgeOfSeven();
        t.theLowestFalls();
        t.fallsTwiceInOneCall();
        t.whyItFell();
        t.whyOfTheLayerThatGaveWay();
        t.weeksOfNoneAndOf520();
        t.eachWallItsOwnWeeks();
        t.waterAddsUp();
        t.check.end();
    }

    private void due(String what, long want, Check.Call call) {
        check.due(what, want, call);
    }

    private static MudWalls built(String text, int layers, int weeks) {
        MudWalls x = Check.yard(text);
        for (int left = layers; left > 0; left -= 9) {
            x.lift(0, Math.min(9, left));
        }
        x.weeks(0, weeks);
        return x;
    }

    private void layers(String what, MudWalls x, int layer, long... want) {
        for (int k = 0; k < want.length; k++) {
            int trait = k;
            due(what + ", layer " + layer + " " + k, want[k], () -> x.layer(0, layer, trait));
        }
    }

    /** WATER of a WALL's cells, a layer behind the other from the foot. */
    private void waters(String what, MudWalls x, long... want) {
        int depth = x.wall(0, 0);
        for (int k = 0; k < want.length; k++) {
            int at = k;
            due(what + ", place " + k, want[k], () -> x.cell(0, at / depth, at % depth, 0));
        }
    }

    private void cracks(String what, MudWalls x, long... want) {
        int depth = x.wall(0, 0);
        for (int k = 0; k < want.length; k++) {
            int at = k;
            due(what + ", cracked " + k, want[k], () -> x.cell(0, at / depth, at % depth, 1));
        }
    }

    /** Promise 6: "no such WALL (as everywhere)", of one to four. */
    private void suchWalls() {
        for (int many = 1; many <= 4; many++) {
            MudWalls x = Check.yard("wall 1;".repeat(many));
            int walls = many;
            due("6 the last of " + many, 1, () -> x.wall(walls - 1, 0));
            due("6 lift on the last of " + many, 1, () -> x.lift(walls - 1, 1));
            for (int w : new int[] {MIN, -1, many, 4, MAX}) {
                due("6 wall " + w + " of " + many, NO_SUCH, () -> x.wall(w, 0));
            }
        }
    }

    /** Promise 7: "no such LAYER, CELL (as everywhere)": of each WALL its own, up to LAYER 23 and CELL 5. */
    private void suchLayersAndCells() {
        MudWalls x = Check.yard("wall 6;wall 1;wall 3;");
        x.lift(0, 9);
        x.lift(0, 9);
        x.lift(0, 6);
        x.lift(1, 1);
        due("7 the very last", 200, () -> x.cell(0, 23, 5, 0));
        due("8 the very last", 0, () -> x.layer(0, 23, 1));
        due("7 no layer 24", NO_SUCH, () -> x.cell(0, 24, 0, 0));
        due("8 no layer 24", NO_SUCH, () -> x.layer(0, 24, 0));
        due("7 no cell 6", NO_SUCH, () -> x.cell(0, 0, 6, 0));
        due("7 no cell -1", NO_SUCH, () -> x.cell(0, 1, -1, 0));
        due("7 no layer -1", NO_SUCH, () -> x.cell(0, -1, 5, 0));
        due("7 one of one", 200, () -> x.cell(1, 0, 0, 0));
        due("7 no second cell", NO_SUCH, () -> x.cell(1, 0, 1, 0));
        due("7 no second layer", NO_SUCH, () -> x.cell(1, 1, 0, 0));
        due("7 a bare wall", NO_SUCH, () -> x.cell(2, 0, 0, 0));
        due("8 a bare wall", NO_SUCH, () -> x.layer(2, 0, 0));
        x.down(1);
        due("7 taken down", NO_SUCH, () -> x.cell(1, 0, 0, 0));
        due("8 taken down", NO_SUCH, () -> x.layer(1, 0, 0));
    }

    /** ==== 2.: "LAYERS .. (.. none at first)", BULGE "(0 at first)", WHY "(0: it never did)". */
    private void noneAtFirst() {
        MudWalls x = Check.yard("wall 3 ground 9;");
        due("6 layers", 0, () -> x.wall(0, 1));
        due("6 weeks", 0, () -> x.wall(0, 8));
        due("6 water", 0, () -> x.wall(0, 9));
        due("6 fell", 0, () -> x.wall(0, 10));
        due("6 why", 0, () -> x.wall(0, 11));
        x.weeks(0, 9);
        due("12 nothing comes into a bare wall", 0, () -> x.count(6));
        x.lift(0, 1);
        due("8 bulge", 0, () -> x.layer(0, 0, 2));
    }

    /** Promise 9: "A LIFT: how many LAYERS the WALL has. NONE (STATUS 1): layers are not 1 to 9". */
    private void liftsOfOneToNine() {
        for (int k = 1; k <= 9; k++) {
            int layers = k;
            MudWalls x = Check.yard("wall 2;");
            due("9 " + k, k, () -> x.lift(0, layers));
            due("6 " + k, k, () -> x.wall(0, 1));
            due("5 come by " + k, 400 * k, () -> x.count(6));
            due("9 and one", k + 1, () -> x.lift(0, 1));
        }
        MudWalls x = Check.yard("wall 2;");
        int refused = 0;
        for (int k : new int[] {MIN, -9, -1, 0, 10, 24, 25, MAX}) {
            due("9 " + k, -1, () -> x.lift(0, k));
            refused++;
            due("5 STATUS 1", refused, () -> x.count(9));
            due("6 none came", 0, () -> x.wall(0, 1));
        }
        due("5 no water came", 0, () -> x.count(6));
    }

    /** Promise 9: "or it would have more than 24": from each height the most that is taken and the least that is not. */
    private void at24Layers() {
        for (int height = 15; height <= 24; height++) {
            int from = height;
            if (height < 24) {
                due("9 up to 24 from " + height, 24, () -> RefusedTest.layersOf(from).lift(0, 24 - from));
            }
            for (int more = 25 - height; more <= 9; more++) {
                int layers = more;
                due("9 above 24 from " + height + " by " + more, -1, () -> RefusedTest.layersOf(from).lift(0, layers));
            }
        }
        MudWalls x = RefusedTest.layersOf(24);
        due("9 full", -1, () -> x.lift(0, 1));
        due("10 one down", 23, () -> x.down(0));
        due("9 one up again", 24, () -> x.lift(0, 1));
    }

    /** ==== 2.: "each CELL of WATER 200", whole, whatever was there before. */
    private void freshLayers() {
        MudWalls x = built("earth 10 50 0;wall 2;week 0 99 frost;week 0 0;", 2, 1);
        x.hollow(0, 1, 1);
        x.down(0);
        x.lift(0, 1);
        for (int cell = 0; cell < 2; cell++) {
            long[] want = {200, 0, 0, 10, 14, 2};
            for (int k = 0; k < 6; k++) {
                int c = cell;
                int what = k;
                due("9 fresh " + cell + " " + k, want[k], () -> x.cell(0, 1, c, what));
            }
        }
    }

    /** ==== 2.: "It is PASTE from 180 on, HARD up to 120." */
    private void pasteAndHard() {
        int[] airs = {0, 19, 20, 21, 22, 78, 79, 80, 81, 99};
        long[] kinds = {2, 2, 2, 1, 1, 1, 1, 0, 0, 0};
        for (int k = 0; k < airs.length; k++) {
            MudWalls x = built("wall 1;week 0 " + airs[k] + ";", 1, 1);
            waters("7 air " + airs[k], x, 200 - airs[k]);
            due("7 what it is at " + (200 - airs[k]), kinds[k], () -> x.cell(0, 0, 0, 5));
        }
        due("7 400 is PASTE", 2, () -> built("wall 1;week 99 0;", 1, 9).cell(0, 0, 0, 5));
    }

    private void strength(String earth, String week, long want) {
        due("7 strength of " + earth + ", " + week, want, () -> built(earth + ";wall 1 shoes 3;" + week + ";", 1, 1).cell(0, 0, 0, 3));
    }

    /** ==== 2.: "GREEN, and FULL by (180 less WATER; 0 at least, 60 at most) by 60". */
    private void strengthByWater() {
        String earth = "earth 10 50 0";
        strength(earth, "week 99 0", 10);
        strength(earth, "week 0 0", 10);
        strength(earth, "week 0 19", 10);
        strength(earth, "week 0 20", 10);
        strength(earth, "week 0 21", 11);
        strength(earth, "week 0 79", 88);
        strength(earth, "week 0 80", 90);
        strength(earth, "week 0 81", 90);
        strength(earth, "week 0 99", 90);
        strength("earth 99 99 99", "week 0 80", 1030 + 208);
        strength("earth 99 99 99", "week 0 0", 208);
        strength("earth 0 0 0", "week 0 80", 50);
    }

    /** ==== 2.: "by 60, cut down". 40 by 1, 2, 3 by 60; 1030 by 1 and 59 by 60. */
    private void strengthIsCutDown() {
        strength("earth 0 0 0", "week 0 21", 10);
        strength("earth 0 0 0", "week 0 22", 11);
        strength("earth 0 0 0", "week 0 23", 12);
        strength("earth 99 99 99", "week 0 21", 208 + 17);
        strength("earth 99 99 99", "week 0 79", 208 + 1012);
    }

    /** ==== 2.: "half of all that, cut down, if it is CRACKED". */
    private void halfIfCracked() {
        strength("earth 10 50 0", "week 0 0 frost", 5);
        strength("earth 10 50 0", "week 0 21 frost", 5);
        strength("earth 10 50 0", "week 0 22 frost", 6);
        strength("earth 10 50 0", "week 0 80 frost", 45);
        // 149 by shrinking: 10 and 436 by 31 by 60 are 235.
        strength("earth 99 0 0", "week 0 51", 117);
        due("7 the load is no less", 12, () -> built("earth 10 50 0;wall 1;week 0 80 frost;", 1, 1).cell(0, 0, 0, 4));
    }

    /** ==== 2.: STRENGTH "0, if it is HOLLOW", LOAD "0, if it is HOLLOW"; its WATER and what it is stay. */
    private void nothingIfHollow() {
        MudWalls x = built("earth 10 50 0;wall 1;week 0 80 frost;", 1, 1);
        x.hollow(0, 0, 0);
        long[] want = {120, 1, 1, 0, 0, 0};
        for (int k = 0; k < 6; k++) {
            int what = k;
            due("7 hollow " + k, want[k], () -> x.cell(0, 0, 0, what));
        }
        due("8 bears", 0, () -> x.layer(0, 0, 0));
        due("6 water in all", 120, () -> x.wall(0, 9));
    }

    private void load(String weeks, int many, long water, long want) {
        MudWalls x = built("wall 1 shoes 3;" + weeks, 1, many);
        waters("7 " + weeks, x, water);
        due("7 load of " + water, want, () -> x.cell(0, 0, 0, 4));
    }

    /** ==== 2.: "Its LOAD: 10 and WATER by 50, cut down". */
    private void loadByWater() {
        load("week 0 99;", 1, 101, 12);
        load("week 0 51;", 1, 149, 12);
        load("week 0 50;", 1, 150, 13);
        load("week 0 1;", 1, 199, 13);
        load("week 0 0;", 1, 200, 14);
        load("week 49 0;", 1, 249, 14);
        load("week 50 0;", 1, 250, 15);
        load("week 99 0;", 1, 299, 15);
        load("week 50 0;", 2, 300, 16);
        load("week 99 0;week 50 0;", 2, 349, 16);
        load("week 50 0;", 3, 350, 17);
        load("week 99 0;week 99 0;week 1 0;", 3, 399, 17);
        load("week 50 0;", 4, 400, 18);
    }

    /** ==== 2.: "on it PRESS the LOADS of all CELLS above it": on the highest nothing, on the foot 23 by 6 by 14. */
    private void whatPressesOnEach() {
        MudWalls x = built("wall 6;", 24, 0);
        for (int l = 0; l < 24; l++) {
            int layer = l;
            due("8 on layer " + l, (23 - l) * 84, () -> x.layer(0, layer, 1));
        }
        x.hollow(0, 23, 5);
        due("8 one of them hollow", 23 * 84 - 14, () -> x.layer(0, 0, 1));
        due("8 its own doesn't press on it", 0, () -> x.layer(0, 23, 1));
        MudWalls y = built("wall 6;", 1, 0);
        due("8 one layer alone", 0, () -> y.layer(0, 0, 1));
        due("8 bears six cells", 120, () -> y.layer(0, 0, 0));
    }

    /** ==== 2.: "and 50 if the WALL has a PROP": every LAYER, once. */
    private void propBearsFifty() {
        MudWalls x = built("earth 0 50 2;wall 2;", 3, 0);
        x.work(0, 4);
        x.work(0, 4);
        for (int l = 0; l < 3; l++) {
            int layer = l;
            due("8 propped " + l, 28 + 50, () -> x.layer(0, layer, 0));
        }
        x.hollow(0, 0, 0);
        x.hollow(0, 0, 1);
        due("8 hollow and propped", 50, () -> x.layer(0, 0, 0));
    }

    /** ==== 2.: "It SITS, if more PRESSES than it BEARS": not, if as much does. */
    private void sitsIfMorePresses() {
        layers("8 14 on 14", built("earth 0 50 2;wall 1;week 0 0;", 2, 1), 0, 14, 14, 0, 0);
        layers("8 14 on 12", built("earth 0 50 1;wall 1;week 0 0;", 2, 1), 0, 12, 14, 1, 1);
        // By rain 253 above and 207 below; 244 and 206.
        layers("8 15 on 14", built("earth 0 50 2;wall 1 shoes 3;week 60 0;", 2, 1), 0, 14, 15, 1, 1);
        layers("8 14 on 14 still", built("earth 0 50 2;wall 1 shoes 3;week 50 0;", 2, 1), 0, 14, 14, 0, 0);
        layers("8 nothing on nothing", hollowed(built("earth 0 50 2;wall 1;week 0 0;", 2, 0)), 0, 0, 0, 0, 0);
    }

    private static MudWalls hollowed(MudWalls x) {
        for (int layer = 0; layer < x.wall(0, 1); layer++) {
            for (int cell = 0; cell < x.wall(0, 0); cell++) {
                x.hollow(0, layer, cell);
            }
        }
        return x;
    }

    /** Promise 10: "The highest LAYER is taken down: how many are left. NONE: there is none." */
    private void downToTheGround() {
        MudWalls x = RefusedTest.layersOf(24);
        for (int left = 23; left >= 0; left--) {
            due("10 left", left, () -> x.down(0));
            due("6 left", left, () -> x.wall(0, 1));
        }
        due("10 none", -1, () -> x.down(0));
        due("10 none again", -1, () -> x.down(0));
        due("5 gone", 24 * 200, () -> x.count(7));
        due("5 STATUS 1 counts no such call", 0, () -> x.count(9));
        due("6 it never fell", 0, () -> x.wall(0, 10));
        due("9 from the ground", 1, () -> x.lift(0, 1));
    }

    /** Promise 10: it is the highest that goes, with its WATER, BULGE and cracks; those below stay. */
    private void downTakesAllWithIt() {
        MudWalls x = built("earth 0 50 0;wall 1;week 0 0 frost;", 3, 1);
        layers("10 before", x, 1, 5, 14, 2, 1);
        due("10 the third", 2, () -> x.down(0));
        layers("10 the second stays", x, 1, 5, 0, 2, 0);
        due("10 the second", 1, () -> x.down(0));
        layers("10 the foot stays", x, 0, 5, 0, 2, 0);
        due("5 gone", 400, () -> x.count(7));
        x.lift(0, 2);
        layers("10 new ones are whole", x, 1, 10, 14, 0, 1);
        layers("10 new ones are whole", x, 2, 10, 0, 0, 0);
    }

    /** Promise 11: "A CELL is HOLLOW from now on (its WATER stays in it)": the first and the last there is. */
    private void hollowAtItsEnds() {
        MudWalls x = built("wall 6;wall 1;", 24, 0);
        check.dueOf("11 the first", 0, () -> x.hollow(0, 0, 0));
        check.dueOf("11 the last", 0, () -> x.hollow(0, 23, 5));
        check.dueOf("11 no layer 24", NO_SUCH, () -> x.hollow(0, 24, 5));
        check.dueOf("11 no cell 6", NO_SUCH, () -> x.hollow(0, 23, 6));
        check.dueOf("11 no layer -1", NO_SUCH, () -> x.hollow(0, -1, 5));
        check.dueOf("11 no cell -1", NO_SUCH, () -> x.hollow(0, 23, -1));
        check.dueOf("11 a bare wall", NO_SUCH, () -> x.hollow(1, 0, 0));
        due("7 the first", 1, () -> x.cell(0, 0, 0, 2));
        due("7 the last", 1, () -> x.cell(0, 23, 5, 2));
        due("7 beside it", 0, () -> x.cell(0, 23, 4, 2));
        due("7 below it", 0, () -> x.cell(0, 22, 5, 2));
        due("7 water stays", 200, () -> x.cell(0, 23, 5, 0));
        due("6 in all", 24 * 6 * 200, () -> x.wall(0, 9));
        // A hollow cell is rained on, dries and gives water as any.
        MudWalls y = Check.yard("wall 1 shoes 3;week 9 0;week 0 50;");
        y.lift(0, 1);
        y.hollow(0, 0, 0);
        y.weeks(0, 1);
        waters("11 rained on", y, 209);
        y.weeks(0, 1);
        waters("11 dried", y, 155);
        due("11 hollow still", 1, () -> y.cell(0, 0, 0, 2));
    }

    /** (a): "without a hat each CELL of the highest LAYER has RAIN more". */
    private void rainOnTheHighest() {
        String wall = "wall 3 shoes 3 outer 0 inner 0";
        waters("12 two layers", built(wall + ";week 7 0;", 2, 1), 200, 200, 200, 207, 207, 207);
        waters("12 one layer", built(wall + ";week 7 0;", 1, 1), 207, 207, 207);
        waters("12 a hat", built("wall 3 shoes 3 hat;week 7 0;", 2, 1), 200, 200, 200, 200, 200, 200);
        waters("12 no rain", built(wall + ";week 0 0;", 1, 1), 200, 200, 200);
        MudWalls x = built("wall 1 shoes 3;week 7 0;", 24, 1);
        due("12 the 24th", 207, () -> x.cell(0, 23, 0, 0));
        due("12 the 23rd", 200, () -> x.cell(0, 22, 0, 0));
    }

    /** (a): "of each LAYER below 3 less 'shoes' the outermost CELL": 7 each, so that nothing moves by an eighth. */
    private void rainFromBeside() {
        for (int shoes = 0; shoes <= 9; shoes++) {
            String text = "wall 1 shoes " + shoes + " hat;week 14 0;";
            long[] want = {shoes < 3 ? 207 : 200, shoes < 2 ? 207 : 200, shoes < 1 ? 207 : 200, 200, 200};
            waters("12 shoes " + shoes, built(text, 5, 1), want);
        }
        waters("12 fewer layers than that", built("wall 1 hat;week 14 0;", 2, 1), 207, 207);
        waters("12 the outermost alone", built("wall 3 hat;week 6 0;", 1, 1), 203, 200, 200);
    }

    /** (a): "RAIN by what the outer COAT lets, by 200, cut down". */
    private void rainThroughTheCoat() {
        int[][] rows = {{99, 0, 0}, {99, 2, 0}, {99, 3, 1}, {1, 100, 0}, {2, 100, 1}, {3, 100, 1}, {49, 4, 0}, {50, 4, 1},
            {57, 7, 1}, {58, 7, 2}, {99, 100, 49}};
        for (int[] r : rows) {
            waters("12 rain " + r[0] + " outer " + r[1], built("wall 1 hat outer " + r[1] + ";week " + r[0] + " 0;", 1, 1), 200 + r[2]);
        }
    }

    /** (a): "of LAYER 0 each CELL has 'ground' by (3 less 'shoes', 0 at least) by 3, cut down, more". */
    private void waterFromTheGround() {
        int[] byShoes = {7, 4, 2, 0, 0, 0, 0, 0, 0, 0};
        for (int shoes = 0; shoes <= 9; shoes++) {
            int w = 200 + byShoes[shoes];
            waters("12 shoes " + shoes, built("wall 2 ground 7 shoes " + shoes + " hat;week 0 0;", 2, 1), w, w, 200, 200);
        }
        int[][] rows = {{0, 0, 0}, {1, 0, 1}, {1, 1, 0}, {2, 1, 1}, {2, 2, 0}, {3, 2, 1}, {20, 0, 20}, {20, 1, 13}, {20, 2, 6}};
        for (int[] r : rows) {
            waters("12 ground " + r[0] + " shoes " + r[1], built("wall 1 ground " + r[0] + " shoes " + r[1] + ";week 0 0;", 1, 1), 200 + r[2]);
        }
    }

    private void atMost(String text, int weeks, int water) {
        MudWalls x = built(text, 1, weeks);
        waters("12 " + weeks + " of " + text, x, water);
        due("5 come in " + weeks + " of " + text, water, () -> x.count(6));
        due("5 gone", 0, () -> x.count(7));
    }

    /** (a): "each at most 400 (what is above doesn't come in)": from above, from beside, from the ground, from all. */
    private void waterAtMost400() {
        atMost("wall 1 shoes 3;week 99 0;", 2, 398);
        atMost("wall 1 shoes 3;week 99 0;", 3, 400);
        atMost("wall 1 shoes 3;week 99 0;", 4, 400);
        atMost("wall 1 hat;week 82 0;", 4, 364);
        atMost("wall 1 hat;week 82 0;", 5, 400);
        atMost("wall 1 hat;week 82 0;", 6, 400);
        atMost("wall 1 ground 19 hat;week 0 0;", 10, 390);
        atMost("wall 1 ground 19 hat;week 0 0;", 11, 400);
        atMost("wall 1 ground 20 hat;week 0 0;", 10, 400);
        atMost("wall 1 ground 20 hat;week 0 0;", 520, 400);
        atMost("wall 1 ground 20;week 99 0;", 1, 368);
        atMost("wall 1 ground 20;week 99 0;", 2, 400);
    }

    /** (b): "between CELLS side by side in a LAYER a fourth of how much they differ, cut down, goes from the wetter one". */
    private void movesSideBySide() {
        waters("12 3 apart", built("wall 2 hat;week 6 0;", 1, 1), 203, 200);
        waters("12 4 apart", built("wall 2 hat;week 8 0;", 1, 1), 203, 201);
        waters("12 7 apart", built("wall 2 hat;week 14 0;", 1, 1), 206, 201);
        waters("12 8 apart", built("wall 2 hat;week 16 0;", 1, 1), 206, 202);
        // Without an inner coat's help the outer one dries ahead: 196 and 199, 194 and 198.
        waters("12 3 apart, within wetter", built("wall 2 shoes 3 hat inner 0;week 0 6;week 0 0;", 1, 2), 196, 199);
        waters("12 4 apart, within wetter", built("wall 2 shoes 3 hat inner 0;week 0 8;week 0 0;", 1, 2), 195, 197);
    }

    /** (b): "between those one above the other an eighth". */
    private void movesUpAndDown() {
        waters("12 7 apart", built("wall 1 ground 7 hat;week 0 0;", 2, 1), 207, 200);
        waters("12 8 apart", built("wall 1 ground 8 hat;week 0 0;", 2, 1), 207, 201);
        waters("12 15 apart", built("wall 1 ground 15 hat;week 0 0;", 2, 1), 214, 201);
        waters("12 16 apart", built("wall 1 ground 16 hat;week 0 0;", 2, 1), 214, 202);
        waters("12 7 apart, above wetter", built("wall 1 shoes 3;week 7 0;", 2, 1), 200, 207);
        waters("12 8 apart, above wetter", built("wall 1 shoes 3;week 8 0;", 2, 1), 201, 207);
        waters("12 none goes further", built("wall 1 shoes 3;week 80 0;", 3, 1), 200, 210, 270);
    }

    /** (b): "MOVES, all by WATER as it is then". */
    private void movesByWaterAsItIsThen() {
        waters("12 side by side", built("wall 3 hat;week 80 0;", 1, 1), 230, 210, 200);
        waters("12 both ways", built("wall 2 shoes 2 hat;week 80 0;", 2, 1), 225, 210, 205, 200);
    }

    /** (c): "n being what the outer COAT lets, if it is the outermost, and half of .. the inner .., and 50, if its LAYER is the highest". */
    private void driesByWhereItIs() {
        waters("12 three deep", built("wall 3;week 0 99;", 2, 1), 151, 200, 176, 126, 176, 151);
        waters("12 one deep", built("wall 1;week 0 99;", 2, 1), 126, 101);
        waters("12 two deep", built("wall 2;week 0 99;", 2, 1), 151, 176, 126, 151);
        waters("12 coats that let nothing", built("wall 1 outer 0 inner 0;week 0 99;", 2, 1), 200, 176);
        waters("12 no air", built("wall 1;week 0 0;", 2, 1), 200, 200);
        MudWalls x = built("wall 6;week 0 99;", 24, 1);
        due("12 the 24th", 126, () -> x.cell(0, 23, 0, 0));
        due("12 the 23rd", 151, () -> x.cell(0, 22, 0, 0));
        due("12 its innermost", 176, () -> x.cell(0, 22, 5, 0));
        due("12 within", 200, () -> x.cell(0, 22, 4, 0));
    }

    /** (c): "half of what the inner one lets (cut down)": 2 of 5 by 9,900 are less than 20,000, 2 and a half are not. */
    private void driesByTheInnerCoat() {
        int[] inner = {0, 1, 4, 5, 6, 7, 8, 9, 10, 99, 100};
        int[] lost = {0, 0, 0, 0, 1, 1, 1, 1, 2, 24, 24};
        for (int k = 0; k < inner.length; k++) {
            waters("12 inner " + inner[k], built("wall 2 outer 0 inner " + inner[k] + ";week 0 99;", 2, 1), 200, 200 - lost[k]);
        }
    }

    /** (c): "what the outer COAT lets", whole. */
    private void driesByTheOuterCoat() {
        int[] outer = {0, 1, 2, 3, 4, 5, 99, 100};
        int[] lost = {0, 0, 0, 1, 1, 2, 49, 49};
        for (int k = 0; k < outer.length; k++) {
            waters("12 outer " + outer[k], built("wall 2 outer " + outer[k] + " inner 0;week 0 99;", 2, 1), 200 - lost[k], 200);
        }
    }

    /** (c): "(WATER less 100, 0 at least) by AIR by n, by 20,000, cut down". */
    private void dryIsCutDown() {
        waters("12 20,000", built("wall 1;week 0 1;", 1, 1), 199);
        waters("12 19,900", built("wall 1 outer 99;week 0 1;", 1, 1), 200);
        waters("12 39,800", built("wall 1 outer 99;week 0 2;", 1, 1), 199);
        waters("12 40,000", built("wall 1;week 0 2;", 1, 1), 198);
        // 1 of 101 by 99 by 200 is less than 20,000: it dries no more.
        waters("12 101", built("wall 1;week 0 99;", 1, 1), 101);
        waters("12 101 stays", built("wall 1;week 0 99;", 1, 520), 101);
        // 199 by 67 by 150 are 50 less than a hundred times 20,000.
        waters("12 1,999,950", built("wall 1 shoes 3 inner 0;week 99 67;", 1, 1), 200);
        waters("12 nearly all of 300", built("wall 1 shoes 3;week 99 0;week 99 0;week 2 0;week 0 99;", 1, 4), 103);
    }

    /** A WEEK: (a), then (b), then (c), each by what the one before left. */
    private void rainThenMovesThenDries() {
        waters("12 a, c", built("wall 1 shoes 3;week 99 50;", 1, 1), 200);
        // 240 and 200 move to 230 and 210; 130 by 50 by 150 and 110 by 50 by 100, by 20,000, dry: 48 and 27.
        waters("12 a, b, c", built("wall 2 hat;week 80 50;", 1, 1), 182, 183);
    }

    /** (d): "CELLS that were PASTE ahead of (a) of this WEEK or are now, with frost". */
    private void frostOnPaste() {
        String wall = "wall 1 shoes 3;";
        cracks("12 180 ahead, 101 now", built(wall + "week 0 20;week 0 99 frost;", 1, 2), 1);
        cracks("12 179 ahead, less now", built(wall + "week 0 21;week 0 99 frost;", 1, 2), 0);
        cracks("12 179 ahead, 180 now", built(wall + "week 0 21;week 1 0 frost;", 1, 2), 1);
        cracks("12 179 ahead, 179 now", built(wall + "week 0 21;week 0 0 frost;", 1, 2), 0);
        // 189 by the rain, but 101 behind the drying.
        cracks("12 only in between", built(wall + "week 0 21;week 10 99 frost;", 1, 2), 0);
        cracks("12 no frost", built(wall + "week 0 0;", 1, 9), 0);
        cracks("12 frost of another week", built(wall + "week 0 21;week 9 0;week 0 99;week 0 0 frost;", 1, 3), 0);
    }

    /** (d): "the outermost ones are CRACKED", of each LAYER; not those within, nor by those within. */
    private void frostOnTheOutermost() {
        cracks("12 each layer's", built("wall 3;week 0 0 frost;", 2, 1), 1, 0, 0, 1, 0, 0);
        cracks("12 one deep", built("wall 1;week 0 0 frost;", 2, 1), 1, 1);
        MudWalls x = built("wall 2 shoes 3 hat inner 0;week 0 80;week 0 0 frost;", 1, 1);
        waters("12 paste within alone", x, 140, 180);
        x.weeks(0, 1);
        cracks("12 paste within alone", x, 0, 0);
        due("12 the 24th layer", 1, () -> built("wall 1;week 0 0 frost;", 24, 1).cell(0, 23, 0, 1));
    }

    /** (d): "if SHRINK is above 60". */
    private void shrinkAbove60() {
        String[] earths = {"earth 20 0 0", "earth 21 3 0", "earth 21 2 0", "earth 20 1 0", "earth 99 0 99", "earth 0 0 0"};
        int[] shrink = {60, 60, 61, 59, 99, 0};
        long[] cracked = {0, 0, 1, 0, 1, 0};
        for (int k = 0; k < earths.length; k++) {
            MudWalls x = built(earths[k] + ";wall 1;week 0 99;", 1, 1);
            due("5 shrink of " + earths[k], shrink[k], () -> x.count(3));
            cracks("12 " + earths[k], x, cracked[k]);
        }
    }

    /** (d): "any that had 150 or more ahead of (a) and has less now". */
    private void lessThan150() {
        String begin = "earth 99 0 0;wall 1 shoes 3;";
        cracks("12 200, 150", built(begin + "week 0 50;", 1, 1), 0);
        cracks("12 200, 149", built(begin + "week 0 51;", 1, 1), 1);
        cracks("12 200, 199: less than it had is not enough", built(begin + "week 0 1;", 1, 1), 0);
        cracks("12 150, 150", built(begin + "week 0 50;week 0 1;", 1, 2), 0);
        cracks("12 150, 149", built(begin + "week 0 50;week 0 2;", 1, 2), 1);
        cracks("12 151, 150", built(begin + "week 0 49;week 0 2;", 1, 2), 0);
        cracks("12 151, 149", built(begin + "week 0 49;week 0 4;", 1, 2), 1);
        // 248 by the rain and 149 behind it: 149 of 150 ahead of (a).
        cracks("12 rain between", built(begin + "week 0 50;week 98 67;", 1, 2), 1);
        MudWalls x = built("earth 99 0 0;wall 2 hat;week 0 99;", 1, 1);
        waters("12 126 and 151", x, 126, 151);
        cracks("12 the outer one", x, 1, 0);
        x.weeks(0, 1);
        cracks("12 any of them", x, 1, 1);
    }

    /** ==== 2.: a CELL "may be CRACKED": no week mends it, no new frost makes it more than that. */
    private void crackedStays() {
        MudWalls x = built("earth 10 50 0;wall 1 shoes 3 hat;week 0 0 frost;week 0 80;", 1, 2);
        waters("12 dry now", x, 120);
        cracks("12 cracked still", x, 1);
        due("7 half of 90", 45, () -> x.cell(0, 0, 0, 3));
        x.weeks(0, 520);
        cracks("12 years on", x, 1);
        due("7 half of 90 still", 45, () -> x.cell(0, 0, 0, 3));
    }

    /** (e): "Each LAYER that SITS has a BULGE more .., and one more, if twice what it BEARS or more PRESSES on it." */
    private void bulgeOfOneAndOfTwo() {
        layers("12 14 on 14", built("earth 0 50 2;wall 1 shoes 3 hat;week 0 0;", 2, 1), 0, 14, 14, 0, 0);
        layers("12 27 on 14", built("earth 0 50 2;wall 1 shoes 3 hat;week 0 1;", 3, 1), 0, 14, 27, 1, 1);
        layers("12 28 on 14", built("earth 0 50 2;wall 1 shoes 3 hat;week 0 0;", 3, 1), 0, 14, 28, 2, 1);
        layers("12 42 on 14 is no more", built("earth 0 50 2;wall 1 shoes 3 hat;week 0 0;", 4, 1), 0, 14, 42, 2, 1);
    }

    /** (e): a LAYER that bears nothing: twice of it presses, if anything does; if nothing does, it doesn't sit. */
    private void bulgeWithoutStrength() {
        MudWalls x = built("earth 0 50 0;wall 1;week 0 0;", 2, 0);
        x.hollow(0, 0, 0);
        x.weeks(0, 1);
        layers("12 14 on 0", x, 0, 0, 14, 2, 1);
        MudWalls y = hollowed(built("earth 0 50 0;wall 1;week 0 0;", 3, 0));
        due("12 stands for years", 0, () -> y.weeks(0, 520));
        layers("12 0 on 0", y, 0, 0, 0, 0, 0);
    }

    /** (e): "If a LAYER's BULGE is 6 or more, the lowest such FALLS": 5 stand. */
    private void bulgeOfSix() {
        MudWalls x = built("earth 0 50 0;wall 1;week 0 0;", 2, 0);
        for (int week = 1; week <= 5; week++) {
            due("12 week " + week, 0, () -> x.weeks(0, 1));
            layers("12 week " + week, x, 0, 10, 14, week, 1);
        }
        due("12 the sixth", 1, () -> x.weeks(0, 1));
        due("6 nothing is left", 0, () -> x.wall(0, 1));
        due("6 fell", 1, () -> x.wall(0, 10));
        due("6 weeks", 6, () -> x.wall(0, 8));
        due("5 gone", 400, () -> x.count(7));
        due("8 no layer", NO_SUCH, () -> x.layer(0, 0, 0));
        due("9 from the ground", 2, () -> x.lift(0, 2));
        layers("9 no bulge", x, 0, 10, 14, 0, 1);
    }

    /** (e): "6 or more": 5 and 2. */
    private void bulgeOfSeven() {
        MudWalls x = built("earth 0 50 0;wall 1;week 0 0;", 2, 5);
        x.lift(0, 1);
        due("12 seven", 1, () -> x.weeks(0, 1));
        due("6 nothing is left", 0, () -> x.wall(0, 1));
    }

    /** (e): "the lowest such FALLS: it and all above are gone"; what is below stays. */
    private void theLowestFalls() {
        // Layers 0 to 5 bear 10 and have 28 or more on them; all reach 6 at once.
        MudWalls x = built("earth 0 50 0;wall 1;week 0 0;", 9, 2);
        layers("12 the foot", x, 0, 10, 112, 4, 1);
        layers("12 the seventh", x, 6, 10, 28, 4, 1);
        layers("12 the eighth", x, 7, 10, 14, 2, 1);
        due("12 one fall", 1, () -> x.weeks(0, 1));
        due("6 all of it", 0, () -> x.wall(0, 1));
        MudWalls y = built("earth 0 50 22;wall 1;week 0 0;", 4, 0);
        y.hollow(0, 1, 0);
        due("12 the second falls", 1, () -> y.weeks(0, 3));
        due("6 the foot is left", 1, () -> y.wall(0, 1));
        due("5 three layers are gone", 600, () -> y.count(7));
        layers("12 it never bulged", y, 0, 54, 0, 0, 0);
    }

    /** Promise 12: "how often it FELL in them": 3 weeks until the hollow fourth layer falls, 6 until the foot does. */
    private void fallsTwiceInOneCall() {
        int[] falls = {0, 0, 0, 1, 1, 1, 2, 2};
        int[] left = {5, 5, 5, 3, 3, 3, 0, 0};
        int[] why = {0, 0, 0, 1, 1, 1, 2, 2};
        for (int weeks = 0; weeks < falls.length; weeks++) {
            int n = weeks;
            MudWalls x = Check.yard("earth 0 50 6;wall 1;week 0 0;");
            x.lift(0, 5);
            x.hollow(0, 3, 0);
            due("12 falls in " + n, falls[n], () -> x.weeks(0, n));
            due("6 left behind " + n, left[n], () -> x.wall(0, 1));
            due("6 fell behind " + n, falls[n], () -> x.wall(0, 10));
            due("6 why behind " + n, why[n], () -> x.wall(0, 11));
            due("12 not those of before", 2 - falls[n], () -> x.weeks(0, 9));
        }
    }

    private void why(String what, long want, MudWalls x) {
        due("6 not yet: " + what, 0, () -> x.wall(0, 11));
        due("12 falls: " + what, 1, () -> x.weeks(0, 6) >= 1 ? 1 : 0);
        due("6 why: " + what, want, () -> x.wall(0, 11));
    }

    /** ==== 2.: WHY "the first of these that is so": 1 HOLLOW, 2 all PASTE, 3 some CRACKED, 4 none of these. */
    private void whyItFell() {
        MudWalls x = built("earth 0 50 0;wall 2;week 0 0 frost;", 2, 0);
        x.hollow(0, 0, 1);
        why("hollow, paste and cracked", 1, x);
        why("paste and cracked", 2, built("earth 0 50 0;wall 2;week 0 0 frost;", 2, 0));
        why("paste", 2, built("earth 0 50 0;wall 2;week 0 0;", 2, 0));
        // The outer cells dry to 176 at once, those within stay paste; nine of them are too much all the same.
        why("one cell no paste", 4, built("earth 0 50 0;wall 2 inner 0;week 0 50;week 0 0;", 9, 0));
        why("one cell no paste, cracked", 3, built("earth 0 50 0;wall 2 inner 0;week 0 50 frost;week 0 0;", 9, 0));
        // By AIR 27 the foot is 180 and the top 173, by 28 they are 179 and 172: nothing moves from then on.
        why("just paste", 2, built("earth 0 50 0;wall 1 shoes 3 hat;week 0 27;" + "week 0 0;".repeat(5), 2, 0));
        why("just no paste", 4, built("earth 0 50 0;wall 1 shoes 3 hat;week 0 28;" + "week 0 0;".repeat(5), 2, 0));
        why("no cell paste, none cracked", 4, built("earth 0 50 0;wall 1;week 0 50;week 0 0;", 9, 0));
    }

    /** ==== 2.: "of the LAYER that gave way": not of one above it, nor below it. */
    private void whyOfTheLayerThatGaveWay() {
        MudWalls x = built("earth 0 50 0;wall 1;week 0 0;", 3, 0);
        x.hollow(0, 2, 0);
        due("12 the foot falls in the sixth week", 0, () -> x.weeks(0, 5));
        due("12 the foot falls", 1, () -> x.weeks(0, 1));
        due("6 why: the foot was paste", 2, () -> x.wall(0, 11));
        // A hollow foot under a prop bears 50; the second, which is propped too, has 5 by 14 on it.
        MudWalls y = built("earth 0 50 0;wall 1;week 0 0;", 7, 0);
        y.hollow(0, 0, 0);
        y.work(0, 4);
        due("12 both reach it", 1, () -> y.weeks(0, 6));
        due("6 why: the lower one was hollow", 1, () -> y.wall(0, 11));
    }

    /** Promise 12: "So many WEEKS of a WALL (0 to 520)". */
    private void weeksOfNoneAndOf520() {
        MudWalls x = Check.yard("wall 1 ground 1;week 0 0;");
        x.lift(0, 1);
        due("12 none", 0, () -> x.weeks(0, 0));
        due("6 none went by", 0, () -> x.wall(0, 8));
        waters("12 none", x, 200);
        due("12 one", 0, () -> x.weeks(0, 1));
        waters("12 one", x, 201);
        for (int weeks : new int[] {MIN, -1, 521, 1000, MAX}) {
            due("12 " + weeks, ILLEGAL, () -> x.weeks(0, weeks));
            due("6 none went by", 1, () -> x.wall(0, 8));
        }
        due("12 520", 0, () -> x.weeks(0, 520));
        due("6 521", 521, () -> x.wall(0, 8));
        due("12 519", 0, () -> x.weeks(0, 519));
        due("6 1040", 1040, () -> x.wall(0, 8));
        MudWalls y = Check.yard("wall 1;" + "week 0 0;".repeat(25) + "week 1 0;");
        y.lift(0, 1);
        y.weeks(0, 519);
        waters("12 19 rounds of 26 and 25 weeks", y, 219);
        y.weeks(0, 1);
        waters("12 the 520th rains", y, 220);
        MudWalls z = Check.yard("wall 1;" + "week 0 0;".repeat(25) + "week 1 0;");
        z.lift(0, 1);
        z.weeks(0, 520);
        waters("12 520 at once", z, 220);
    }

    /** ==== 2.: "The YARD's next week is the next one then (of each WALL its own count)". */
    private void eachWallItsOwnWeeks() {
        MudWalls x = Check.yard("wall 1 shoes 3;wall 1 shoes 3;week 1 0;week 10 0;");
        x.lift(0, 1);
        x.lift(1, 1);
        x.weeks(0, 1);
        due("12 the first of it", 201, () -> x.cell(0, 0, 0, 0));
        x.weeks(1, 1);
        due("12 the first of the other", 201, () -> x.cell(1, 0, 0, 0));
        x.weeks(0, 1);
        due("12 the second", 211, () -> x.cell(0, 0, 0, 0));
        due("6 two", 2, () -> x.wall(0, 8));
        due("6 one", 1, () -> x.wall(1, 8));
        due("7 not the other's", 201, () -> x.cell(1, 0, 0, 0));
        // The count goes on while a wall is bare, and when it falls.
        MudWalls y = Check.yard("wall 1 shoes 3;week 1 0;week 10 0;");
        y.weeks(0, 1);
        y.lift(0, 1);
        y.weeks(0, 1);
        due("12 the second, of one bare at first", 210, () -> y.cell(0, 0, 0, 0));
    }

    /** ==== 2.: "WATER ADDS UP: COME .. less GONE .. is what is in all CELLS." */
    private void waterAddsUp() {
        MudWalls x = Check.yard("earth 0 50 0;wall 3 ground 20;wall 1 hat outer 50;week 99 3;week 0 99;week 50 0 frost;");
        for (int step = 0; step < 40; step++) {
            int wall = step % 3 == 0 ? 1 : 0;
            x.lift(wall, 1 + step % 4);
            x.weeks(wall, step % 5);
            if (step % 7 == 6) {
                x.down(wall);
            }
            due("5 behind step " + step, x.wall(0, 9) + x.wall(1, 9), () -> x.count(6) - x.count(7));
        }
        due("12 it fell meanwhile", 1, () -> x.wall(0, 10) > 0 ? 1 : 0);
    }
}
