/** Each promise by hand-reckoned answers: ordinary inputs, the edges that the document names, wrong inputs. */
public final class PromiseTest {
    private static final long NO_SUCH = Check.NO_SUCH;
    private static final long ILLEGAL = Check.ILLEGAL;
    private static final int MIN = Integer.MIN_VALUE;
    private static final int MAX = Integer.MAX_VALUE;

    private final Check check = new Check();

    public static void main(String[] args) {
        PromiseTest t = new PromiseTest();
        t.promise1();
        t.promise2();
        t.promise3Faults();
        t.promise3Limits();
        t.promise3Anew();
        t.promise4();
        t.promise5();
        t.promise6();
        t.promise7();
        t.promise8();
        t.promise9();
        t.promise10();
        t.promise11();
        t.promise12Water();
        t.promise12Edges();
        t.promise12Cracks();
        t.promise12Falls();
        t.promise13();
        t.promise14();
        t.promises15And16();
        t.promise17();
        t.promise18();
        t.promise19();
        t.promises20And21();
        t.promises22And23();
        t.promises24And25();
        t.promises26To29();
        t.promises30And31();
        t.check.end();
    }

    private void due(String what, long want, Check.Call call) {
        check.due(what, want, call);
    }

    private void wrongWhats(String what, int least, int most, java.util.function.IntUnaryOperator call) {
        for (int k : new int[] {MIN, least - 1, most + 1, MAX}) {
            due(what + " " + k, NO_SUCH, () -> call.applyAsInt(k));
        }
    }

    private void promise1() {
        MudWalls x = new MudWalls();
        due("1 NONE", -1, () -> MudWalls.NONE);
        long[] counts = {0, 0, 190, 30, 20, 0, 0, 0, 0, 0, 0, 0};
        for (int k = 0; k < counts.length; k++) {
            int what = k;
            due("1 count " + k, counts[k], () -> x.count(what));
        }
        due("1 fault", -1, () -> x.fault());
        due("1 wall", NO_SUCH, () -> x.wall(0, 0));
        due("1 planned", NO_SUCH, () -> x.planned(0));
        due("1 ordered", NO_SUCH, () -> x.ordered(0));
        due("1 credit", -1, () -> x.credit(3));
        due("1 where", -1, () -> x.where());
        due("1 restore", 0, () -> x.restore() ? 1 : 0);
        due("1 first", 0, () -> x.first(9999, 2));
    }

    private void promise2() {
        MudWalls x = new MudWalls();
        for (int k = 1; k <= 35; k++) {
            due("2 feed " + k, 20 * k, () -> x.feed(0x77616c6c, 0x20313b20, 0x20202020, 0x0a0a0a0a, 0x20202020));
        }
        due("2 feed 36", -1, () -> x.feed(0, 0, 0, 0, 0));
        due("2 none came", 700, () -> x.count(5));
        due("2 the 5th wall of 35", 2, () -> x.yard(700));
        due("2 where it is", 80, () -> x.fault());
        due("2 emptied", 0, () -> x.count(5));
        due("2 high bytes", 20, () -> x.feed(0x77616c6c, 0x2031ffff, MIN, -1, 0));
        due("2 no token", 1, () -> x.yard(8));
        due("2 at the byte", 6, () -> x.fault());
    }

    private void faultOf(String text, int kind, int place) {
        MudWalls x = new MudWalls();
        due("3 " + text, kind, () -> Check.tell(x, text));
        due("4 " + text, place, () -> x.fault());
        due("8 " + text, kind == 0 ? 0 : 1, () -> x.count(8));
    }

    private void promise3Faults() {
        faultOf("", 0, -1);
        faultOf("  \n ", 0, -1);
        faultOf("wall", 1, 4);
        faultOf("wall  ", 1, 6);
        faultOf("wall 1", 1, 6);
        faultOf("wall1;", 0, -1);
        faultOf("wall\n1\n;\n", 0, -1);
        faultOf("wall 0001;", 0, -1);
        faultOf("wall 00001;", 2, 5);
        faultOf("wall 12345;", 2, 5);
        faultOf("12345;", 1, 0);
        faultOf("wall 1 12345;", 1, 7);
        faultOf("walls 1;", 1, 0);
        faultOf("wal l 1;", 1, 0);
        faultOf("Wall 1;", 1, 0);
        faultOf(";", 1, 0);
        faultOf("wall 1;;", 1, 7);
        faultOf("wall 1\t;", 1, 6);
        faultOf("wall ;", 1, 5);
        faultOf("wall hat;", 1, 5);
        faultOf("wall 1 ground 2 shoes 3 hat outer 4 inner 5;", 0, -1);
        faultOf("wall 1 hat shoes 3;", 1, 11);
        faultOf("wall 1 shoes 3 ground 2;", 1, 15);
        faultOf("wall 1 hat hat;", 1, 11);
        faultOf("wall 1 inner 5 outer 5;", 1, 15);
        faultOf("wall 1 outer;", 1, 12);
        faultOf("wall 1 hat 5;", 1, 11);
        faultOf("wall 1 frost;", 1, 7);
        faultOf("earth 1 2;", 1, 9);
        faultOf("earth 1 2 3 4;", 1, 12);
        faultOf("earth 1 2 3;earth", 3, 12);
        faultOf("earth 1 2 3;wall 1;earth 4 5 6;", 3, 19);
        faultOf("week 1;", 1, 6);
        faultOf("week 1 2 frost;", 0, -1);
        faultOf("week 1 2frost;", 0, -1);
        faultOf("week 1 2 frosty;", 1, 9);
        faultOf("week frost 1 2;", 1, 5);
        faultOf("wall 9;earth", 2, 5);
        faultOf("wall 1 ground 99 x", 2, 14);
    }

    private void promise3Limits() {
        String[][] ranges = {{"wall ", ";", "1", "6"}, {"wall 1 ground ", ";", "0", "20"}, {"wall 1 shoes ", ";", "0", "9"},
            {"wall 1 outer ", ";", "0", "100"}, {"wall 1 inner ", ";", "0", "100"}, {"earth ", " 1 1;", "0", "99"},
            {"earth 1 ", " 1;", "0", "99"}, {"earth 1 1 ", ";", "0", "99"}, {"week ", " 1;", "0", "99"}, {"week 1 ", ";", "0", "99"}};
        for (String[] r : ranges) {
            int least = Integer.parseInt(r[2]);
            int most = Integer.parseInt(r[3]);
            faultOf(r[0] + least + r[1], 0, -1);
            faultOf(r[0] + most + r[1], 0, -1);
            faultOf(r[0] + (most + 1) + r[1], 2, r[0].length());
            faultOf(r[0] + 9999 + r[1], 2, r[0].length());
            if (least > 0) {
                faultOf(r[0] + (least - 1) + r[1], 2, r[0].length());
            }
        }
        faultOf("wall 1;".repeat(4), 0, -1);
        faultOf("wall 1;".repeat(5), 2, 28);
        faultOf("wall 1;".repeat(4) + "wall", 2, 28);
        faultOf("wall 1;".repeat(4) + "wallx", 1, 28);
        faultOf("week 1 2;".repeat(30), 0, -1);
        faultOf("week 1 2;".repeat(31), 2, 270);
    }

    private void promise3Anew() {
        MudWalls x = Check.yard("earth 0 50 0;wall 1;wall 2;week 1 2;");
        x.lift(0, 2);
        x.weeks(0, 1);
        x.lift(0, 99);
        x.brick(30, true);
        x.brick(101, true);
        x.house(1, 1, 1);
        x.house(1, 1, 0);
        x.guess(0, 0);
        x.plan(1, 1);
        x.order(0, 1);
        x.image();
        Check.feed(x, "wall 3; nonsense");
        int come = x.count(6);
        due("3 more than there is", ILLEGAL, () -> x.yard(21));
        due("3 below 0", ILLEGAL, () -> x.yard(-1));
        due("3 the least", ILLEGAL, () -> x.yard(MIN));
        due("3 nothing changed", 20, () -> x.count(5));
        due("3 no fault", -1, () -> x.fault());
        due("3 status stays", 0, () -> x.count(8));
        due("3 a fault", 1, () -> x.yard(20));
        due("3 tape is empty", 0, () -> x.count(5));
        due("3 status", 1, () -> x.count(8));
        due("3 walls stay", 2, () -> x.count(0));
        due("3 layers stay", 2, () -> x.wall(0, 1));
        due("3 earth stays", 40, () -> x.count(2));
        due("3 come stays", come, () -> x.count(6));
        due("3 bricks stay", 30, () -> x.mix(0));
        due("3 houses stay", 1, () -> x.first(9, 0));
        due("3 guess stays", 0, () -> x.credit(0));
        due("3 plan stays", 1, () -> x.planned(0));
        due("3 order stays", 0, () -> x.ordered(0));
        due("3 image stays", 1, () -> x.restore() ? 1 : 0);
        due("3 status goes back by it", 0, () -> x.count(8));
        Check.feed(x, "oops");
        due("3 fault again", 1, () -> x.yard(4));
        due("3 a good one", 0, () -> Check.tell(x, "wall 3;"));
        due("3 new walls", 1, () -> x.count(0));
        due("3 new wall", 3, () -> x.wall(0, 0));
        due("3 no layers", 0, () -> x.wall(0, 1));
        due("3 no weeks went by", 0, () -> x.wall(0, 8));
        due("3 no weeks told", 0, () -> x.count(1));
        due("3 earth as without", 190, () -> x.count(2));
        due("3 come", 0, () -> x.count(6));
        due("3 gone", 0, () -> x.count(7));
        due("3 status 0 stays", 1, () -> x.count(8));
        due("3 status 1 stays", 1, () -> x.count(9));
        due("3 status 2 stays", 1, () -> x.count(10));
        due("3 status 3 stays", 1, () -> x.count(11));
        due("3 bricks gone", -1, () -> x.mix(0));
        due("3 houses gone", 0, () -> x.first(9, 0));
        due("3 guess gone", -1, () -> x.credit(0));
        due("3 plan gone", NO_SUCH, () -> x.planned(0));
        due("3 order gone", NO_SUCH, () -> x.ordered(0));
        due("3 image gone", 0, () -> x.restore() ? 1 : 0);
        due("3 bricks anew", 1, () -> x.brick(0, true));
        due("3 houses anew", 1, () -> x.house(1, 1, 1));
        Check.feed(x, "wall 2;wall 2;");
        due("3 only the first bytes", 0, () -> x.yard(7));
        due("3 one wall", 1, () -> x.count(0));
        due("3 the rest is gone too", 0, () -> x.count(5));
    }

    private void promise4() {
        MudWalls x = new MudWalls();
        Check.tell(x, "wall 1;rain");
        due("4 the place", 7, () -> x.fault());
        due("4 refused", ILLEGAL, () -> x.yard(1));
        due("4 stays", 7, () -> x.fault());
        Check.tell(x, "wall 1;");
        due("4 none without", -1, () -> x.fault());
    }

    private void promise5() {
        MudWalls x = Check.yard("earth 10 50 3;wall 1;wall 2;wall 3;week 1 2;week 3 4 frost;");
        long[] counts = {3, 2, 98, -26, 16, 0, 0, 0, 0, 0, 0, 0};
        for (int k = 0; k < counts.length; k++) {
            int what = k;
            due("5 count " + k, counts[k], () -> x.count(what));
        }
        wrongWhats("5", 0, 11, x::count);
    }

    private void promise6() {
        MudWalls x = Check.yard("wall 4 ground 7 shoes 2 hat outer 30 inner 40;wall 2;");
        long[] one = {4, 0, 7, 2, 1, 30, 40, 0, 0, 0, 0, 0};
        long[] two = {2, 0, 0, 0, 0, 100, 100, 0, 0, 0, 0, 0};
        for (int k = 0; k < one.length; k++) {
            int what = k;
            due("6 wall 0 " + k, one[k], () -> x.wall(0, what));
            due("6 wall 1 " + k, two[k], () -> x.wall(1, what));
        }
        wrongWhats("6 what", 0, 11, k -> x.wall(0, k));
        wrongWhats("6 wall", 0, 1, k -> x.wall(k, 0));
    }

    private void promise7() {
        MudWalls x = Check.yard("earth 10 50 0;wall 1;week 0 99;week 99 0 frost;");
        x.lift(0, 1);
        long[] fresh = {200, 0, 0, 10, 14, 2};
        cells("7 fresh", x, 0, 0, fresh);
        x.weeks(0, 1);
        cells("7 hard", x, 0, 0, new long[] {101, 0, 0, 90, 12, 0});
        x.weeks(0, 1);
        // 101 and 99 from above and 49 from beside: wet again, and frost.
        cells("7 frozen", x, 0, 0, new long[] {249, 1, 0, 5, 14, 2});
        x.hollow(0, 0, 0);
        cells("7 hollow", x, 0, 0, new long[] {249, 1, 1, 0, 0, 2});
        cellBehind("7 just hard", "80", new long[] {120, 0, 0, 90, 12, 0});
        cellBehind("7 just not", "79", new long[] {121, 0, 0, 88, 12, 1});
        cellBehind("7 just no paste", "21", new long[] {179, 0, 0, 11, 13, 1});
        cellBehind("7 just paste", "20", new long[] {180, 0, 0, 10, 13, 2});
        wrongWhats("7 what", 0, 5, k -> x.cell(0, 0, 0, k));
        wrongWhats("7 cell", 0, 0, k -> x.cell(0, 0, k, 0));
        wrongWhats("7 layer", 0, 0, k -> x.cell(0, k, 0, 0));
        wrongWhats("7 wall", 0, 0, k -> x.cell(k, 0, 0, 0));
    }

    private void cellBehind(String what, String air, long[] want) {
        MudWalls x = Check.yard("earth 10 50 0;wall 1;week 0 " + air + ";");
        x.lift(0, 1);
        x.weeks(0, 1);
        cells(what, x, 0, 0, want);
    }

    private void cells(String what, MudWalls x, int layer, int cell, long[] want) {
        for (int k = 0; k < want.length; k++) {
            int trait = k;
            due(what + " " + layer + " " + cell + " " + k, want[k], () -> x.cell(0, layer, cell, trait));
        }
    }

    private void promise8() {
        MudWalls x = Check.yard("earth 0 50 2;wall 2;");
        x.lift(0, 3);
        // A fresh cell bears 14 and weighs 14.
        layers("8 foot", x, 0, new long[] {28, 56, 0, 1});
        layers("8 middle", x, 1, new long[] {28, 28, 0, 0});
        layers("8 top", x, 2, new long[] {28, 0, 0, 0});
        x.hollow(0, 2, 1);
        layers("8 lighter", x, 1, new long[] {28, 14, 0, 0});
        x.work(0, 4);
        layers("8 propped", x, 0, new long[] {78, 42, 0, 0});
        layers("8 propped top", x, 2, new long[] {64, 0, 0, 0});
        wrongWhats("8 what", 0, 3, k -> x.layer(0, 0, k));
        wrongWhats("8 layer", 0, 2, k -> x.layer(0, k, 0));
        wrongWhats("8 wall", 0, 0, k -> x.layer(k, 0, 0));
    }

    private void layers(String what, MudWalls x, int layer, long[] want) {
        for (int k = 0; k < want.length; k++) {
            int trait = k;
            due(what + " " + k, want[k], () -> x.layer(0, layer, trait));
        }
    }

    private void promise9() {
        MudWalls x = Check.yard("wall 2;");
        due("9 no wall", NO_SUCH, () -> x.lift(1, 0));
        due("9 none", -1, () -> x.lift(0, 0));
        due("9 too many", -1, () -> x.lift(0, 10));
        due("9 the least", -1, () -> x.lift(0, MIN));
        due("9 the most", -1, () -> x.lift(0, MAX));
        due("9 status", 4, () -> x.count(9));
        due("9 nine", 9, () -> x.lift(0, 9));
        due("9 nine more", 18, () -> x.lift(0, 9));
        due("9 too high", -1, () -> x.lift(0, 7));
        due("9 the highest", 24, () -> x.lift(0, 6));
        due("9 full", -1, () -> x.lift(0, 1));
        due("9 status again", 6, () -> x.count(9));
        due("9 come", 24 * 2 * 200, () -> x.count(6));
        due("9 water", 24 * 2 * 200, () -> x.wall(0, 9));
        cells("9 the last cell", x, 23, 1, new long[] {200, 0, 0, 20, 14, 2});
    }

    private void promise10() {
        MudWalls x = Check.yard("earth 0 50 0;wall 1;week 0 0;");
        due("10 no wall", NO_SUCH, () -> x.down(-1));
        due("10 nothing there", -1, () -> x.down(0));
        x.lift(0, 2);
        x.hollow(0, 1, 0);
        x.hollow(0, 0, 0);
        due("10 one left", 1, () -> x.down(0));
        due("10 gone", 200, () -> x.count(7));
        x.lift(0, 2);
        x.weeks(0, 1);
        due("10 bulge", 2, () -> x.layer(0, 0, 2));
        due("10 two left", 2, () -> x.down(0));
        due("10 one left again", 1, () -> x.down(0));
        x.lift(0, 1);
        due("10 a new layer is whole", 0, () -> x.cell(0, 1, 0, 2));
        due("10 a new layer has no bulge", 0, () -> x.layer(0, 1, 2));
        due("10 the foot stays hollow", 1, () -> x.cell(0, 0, 0, 2));
        due("10 no status", 0, () -> x.count(9));
    }

    private void promise11() {
        MudWalls x = Check.yard("wall 2;wall 3;");
        x.lift(1, 2);
        check.dueOf("11 no wall", NO_SUCH, () -> x.hollow(2, 0, 0));
        check.dueOf("11 no layer", NO_SUCH, () -> x.hollow(0, 0, 0));
        check.dueOf("11 no layer 2", NO_SUCH, () -> x.hollow(1, 2, 0));
        check.dueOf("11 no cell", NO_SUCH, () -> x.hollow(1, 1, 3));
        check.dueOf("11 below 0", NO_SUCH, () -> x.hollow(1, 1, -1));
        check.dueOf("11 hollow", 0, () -> x.hollow(1, 1, 2));
        check.dueOf("11 again", 0, () -> x.hollow(1, 1, 2));
        due("11 water stays", 200, () -> x.cell(1, 1, 2, 0));
        due("11 hollow", 1, () -> x.cell(1, 1, 2, 2));
        due("11 beside", 0, () -> x.cell(1, 1, 1, 2));
        due("11 bears", 40, () -> x.layer(1, 1, 0));
        due("11 presses", 28, () -> x.layer(1, 0, 1));
    }

    /** A week by hand: 5 from beside on both layers, 6 from the ground; 1 moves in each layer; 13, 13, 26, 25 dry. */
    private void promise12Water() {
        MudWalls x = Check.yard("earth 10 50 0;wall 2 ground 6 hat outer 50;week 20 50;");
        x.lift(0, 2);
        due("12 a week", 0, () -> x.weeks(0, 1));
        due("12 0 0", 197, () -> x.cell(0, 0, 0, 0));
        due("12 0 1", 194, () -> x.cell(0, 0, 1, 0));
        due("12 1 0", 178, () -> x.cell(0, 1, 0, 0));
        due("12 1 1", 176, () -> x.cell(0, 1, 1, 0));
        due("12 come", 822, () -> x.count(6));
        due("12 gone", 77, () -> x.count(7));
        due("12 in all", 745, () -> x.wall(0, 9));
        layers("12 sits", x, 0, new long[] {20, 26, 1, 1});
        MudWalls v = Check.yard("wall 2 hat;week 99 0;");
        v.lift(0, 1);
        v.weeks(0, 1);
        due("12 a fourth goes", 237, () -> v.cell(0, 0, 0, 0));
        due("12 a fourth comes", 212, () -> v.cell(0, 0, 1, 0));
        MudWalls y = Check.yard("wall 1 ground 5 shoes 1 hat;week 7 0;");
        y.lift(0, 4);
        y.weeks(0, 1);
        // 3 from beside on layers 0 and 1 alone, 3 from the ground; nothing moves by an eighth of 3.
        long[] want = {206, 203, 200, 200};
        for (int k = 0; k < 4; k++) {
            int layer = k;
            due("12 shoes " + k, want[k], () -> y.cell(0, layer, 0, 0));
        }
        MudWalls z = Check.yard("wall 3 outer 0 inner 0;week 99 0;week 0 99;");
        z.lift(0, 1);
        z.weeks(0, 3);
        // 299 less 49, which the open top lets, and 99; 288 and 99; 316 and 84 of 99.
        due("12 top", 349, () -> z.cell(0, 0, 1, 0));
        z.weeks(0, 2);
        due("12 below 400", 387, () -> z.cell(0, 0, 1, 0));
        z.weeks(0, 2);
        due("12 400 at most", 400, () -> z.cell(0, 0, 1, 0));
        due("12 what is above doesn't come in", 3 * (200 + 3 * 99 + 84), () -> z.count(6));
    }

    private void promise12Edges() {
        MudWalls x = Check.yard("wall 1;");
        due("12 no wall", NO_SUCH, () -> x.weeks(1, 600));
        due("12 below 0", ILLEGAL, () -> x.weeks(0, -1));
        due("12 too many", ILLEGAL, () -> x.weeks(0, 521));
        due("12 nothing went by", 0, () -> x.wall(0, 8));
        due("12 none", 0, () -> x.weeks(0, 0));
        due("12 no layers", 0, () -> x.weeks(0, 520));
        due("12 went by", 520, () -> x.wall(0, 8));
        due("12 no water", 0, () -> x.count(6));
        x.lift(0, 1);
        x.weeks(0, 1);
        due("12 air 20 without weeks", 180, () -> x.cell(0, 0, 0, 0));
        MudWalls y = Check.yard("wall 1 shoes 3 hat;week 0 0;week 0 50;wall 1 shoes 3 hat;");
        y.lift(0, 1);
        y.lift(1, 1);
        y.weeks(0, 1);
        due("12 first week", 200, () -> y.cell(0, 0, 0, 0));
        y.weeks(0, 1);
        due("12 second week", 150, () -> y.cell(0, 0, 0, 0));
        y.weeks(0, 1);
        due("12 round", 150, () -> y.cell(0, 0, 0, 0));
        due("12 its own count", 0, () -> y.wall(1, 8));
        y.weeks(1, 1);
        due("12 its own first week", 200, () -> y.cell(1, 0, 0, 0));
    }

    private void promise12Cracks() {
        // 200, 180, 164, 152, 142: below 150 in the fourth week.
        String[] earths = {"earth 20 0 0", "earth 21 2 0", "earth 21 3 0", "earth 99 0 0"};
        int[] cracks = {0, 1, 0, 1};
        for (int k = 0; k < earths.length; k++) {
            MudWalls x = Check.yard(earths[k] + ";wall 1;");
            x.lift(0, 1);
            x.weeks(0, 3);
            due("12 not yet " + earths[k], 0, () -> x.cell(0, 0, 0, 1));
            x.weeks(0, 1);
            due("12 water " + earths[k], 142, () -> x.cell(0, 0, 0, 0));
            due("12 cracked " + earths[k], cracks[k], () -> x.cell(0, 0, 0, 1));
        }
        MudWalls w = Check.yard("earth 99 0 0;wall 1;week 0 50;");
        w.lift(0, 1);
        w.weeks(0, 1);
        due("12 just 150", 150, () -> w.cell(0, 0, 0, 0));
        due("12 150 is not less", 0, () -> w.cell(0, 0, 0, 1));
        w.weeks(0, 1);
        due("12 it had 150", 1, () -> w.cell(0, 0, 0, 1));
        MudWalls x = Check.yard("wall 3;week 0 0 frost;");
        x.lift(0, 2);
        x.weeks(0, 1);
        due("12 frost, outermost", 1, () -> x.cell(0, 1, 0, 1));
        due("12 frost, foot", 1, () -> x.cell(0, 0, 0, 1));
        due("12 frost, within", 0, () -> x.cell(0, 0, 1, 1));
        due("12 frost, innermost", 0, () -> x.cell(0, 0, 2, 1));
        MudWalls y = Check.yard("wall 1;week 0 99 frost;");
        y.lift(0, 1);
        y.weeks(0, 1);
        due("12 hard now", 101, () -> y.cell(0, 0, 0, 0));
        due("12 was paste", 1, () -> y.cell(0, 0, 0, 1));
        MudWalls z = Check.yard("wall 1;week 0 99;week 0 0 frost;week 99 0;week 0 0 frost;");
        z.lift(0, 1);
        z.weeks(0, 3);
        due("12 frost on hard earth", 0, () -> z.cell(0, 0, 0, 1));
        z.weeks(0, 1);
        due("12 frost on paste", 1, () -> z.cell(0, 0, 0, 1));
    }

    private void promise12Falls() {
        MudWalls x = Check.yard("earth 0 50 0;wall 1;week 0 0;");
        x.lift(0, 9);
        due("12 stands two weeks", 0, () -> x.weeks(0, 2));
        due("12 twice", 4, () -> x.layer(0, 6, 2));
        due("12 once", 2, () -> x.layer(0, 7, 2));
        due("12 never", 0, () -> x.layer(0, 8, 2));
        due("12 why not yet", 0, () -> x.wall(0, 11));
        due("12 falls", 1, () -> x.weeks(0, 1));
        due("12 all of it", 0, () -> x.wall(0, 1));
        due("12 paste", 2, () -> x.wall(0, 11));
        due("12 fell", 1, () -> x.wall(0, 10));
        due("12 gone", 1800, () -> x.count(7));
        MudWalls w = Check.yard("earth 0 50 2;wall 1;week 0 0;");
        w.lift(0, 3);
        w.weeks(0, 1);
        due("12 just twice presses", 2, () -> w.layer(0, 0, 2));
        due("12 just what it bears presses", 0, () -> w.layer(0, 1, 2));
        MudWalls y = Check.yard("earth 0 50 0;wall 1;week 0 99;week 0 0;week 0 0;week 0 0;week 0 0;");
        y.lift(0, 1);
        y.weeks(0, 1);
        y.lift(0, 3);
        y.weeks(0, 2);
        due("12 the second bulges", 4, () -> y.layer(0, 1, 2));
        due("12 the foot bears", 0, () -> y.layer(0, 0, 2));
        due("12 it falls", 1, () -> y.weeks(0, 1));
        due("12 down to the foot", 1, () -> y.wall(0, 1));
        due("12 the foot", 129, () -> y.cell(0, 0, 0, 0));
        due("12 none of these", 4, () -> y.wall(0, 11));
        MudWalls z = Check.yard("earth 0 50 0;wall 2 inner 0;week 0 80 frost;week 0 0;");
        z.lift(0, 9);
        due("12 cracked falls", 1, () -> z.weeks(0, 3));
        due("12 cracked", 3, () -> z.wall(0, 11));
        z.lift(0, 9);
        z.hollow(0, 0, 1);
        due("12 hollow falls", 1, () -> z.weeks(0, 3));
        due("12 hollow", 1, () -> z.wall(0, 11));
        due("12 fell twice", 2, () -> z.wall(0, 10));
    }

    private void promise13() {
        MudWalls x = Check.yard("wall 1;wall 3;");
        due("13 no wall", NO_SUCH, () -> x.high(2));
        // A fresh layer bears 20 a cell: one more of 14, not two.
        due("13 empty", 2, () -> x.high(0));
        due("13 empty, deep", 2, () -> x.high(1));
        x.work(0, 4);
        due("13 propped", 6, () -> x.high(0));
        x.lift(0, 6);
        due("13 bears no more", 0, () -> x.high(0));
        x.down(0);
        due("13 one", 1, () -> x.high(0));
        x.hollow(0, 0, 0);
        x.hollow(0, 1, 0);
        // The foot bears 50 by its prop, three fresh layers press: 8 are left, not 14.
        due("13 hollow", 0, () -> x.high(0));
        MudWalls y = Check.yard("earth 0 0 99;wall 1;");
        due("13 nine at most", 9, () -> y.high(0));
        y.lift(0, 9);
        y.weeks(0, 50);
        y.lift(0, 9);
        y.weeks(0, 50);
        due("13 24 in all", 6, () -> y.high(0));
        y.lift(0, 6);
        due("13 full", 0, () -> y.high(0));
    }

    private void promise14() {
        MudWalls x = Check.yard("earth 10 50 0;wall 1;");
        due("14 no wall", NO_SUCH, () -> x.when(4, 0));
        due("14 none", ILLEGAL, () -> x.when(0, 0));
        due("14 ten", ILLEGAL, () -> x.when(0, 10));
        due("14 empty", 0, () -> x.when(0, 1));
        x.lift(0, 1);
        // 180 bears 10 still, 164 bears 31.
        due("14 two weeks", 2, () -> x.when(0, 1));
        due("14 fresh earth never bears it", -1, () -> x.when(0, 2));
        due("14 nothing went by", 0, () -> x.wall(0, 8));
        x.weeks(0, 2);
        due("14 now", 0, () -> x.when(0, 1));
        // 200, 185, 173: two rounds of 26 weeks are in time, two of 27 are not.
        due("14 the last week", 52, () -> lifted("earth 10 50 0;wall 1;" + "week 0 0;".repeat(25) + "week 0 15;").when(0, 1));
        due("14 too late", -1, () -> lifted("earth 10 50 0;wall 1;" + "week 0 0;".repeat(26) + "week 0 15;").when(0, 1));
        MudWalls y = Check.yard("earth 10 50 0;wall 1;week 0 0;week 0 0;week 0 0;week 0 99;");
        y.lift(0, 3);
        due("14 it falls ahead of that", -1, () -> y.when(0, 1));
        y.down(0);
        due("14 it dries in time", 4, () -> y.when(0, 1));
        due("14 it stands", 2, () -> y.wall(0, 1));
        // Three weeks make 3 of bulge; by the week of air both are hard.
        due("14 nothing bulges by asking", 0, () -> y.layer(0, 0, 2));
    }

    private static MudWalls lifted(String text) {
        MudWalls x = Check.yard(text);
        x.lift(0, 1);
        return x;
    }

    private void promises15And16() {
        MudWalls x = Check.yard("earth 10 50 10;wall 1 shoes 3 hat;wall 1 shoes 3 hat;week 0 50;");
        due("15 no wall", NO_SUCH, () -> x.plan(2, 0));
        due("15 height 0", ILLEGAL, () -> x.plan(0, 0));
        due("15 height 25", ILLEGAL, () -> x.plan(0, 25));
        due("15 none that high", -1, () -> x.plan(0, 16));
        due("16 none kept", NO_SUCH, () -> x.planned(0));
        due("15 three", 1, () -> x.plan(0, 3));
        due("16 three", 3, () -> x.planned(0));
        due("16 no second", NO_SUCH, () -> x.planned(1));
        due("15 four", 2, () -> x.plan(0, 4));
        due("16 four: 1", 1, () -> x.planned(0));
        due("16 four: 3", 3, () -> x.planned(1));
        due("16 below 0", NO_SUCH, () -> x.planned(-1));
        due("16 the least", NO_SUCH, () -> x.planned(MIN));
        due("15 24", -1, () -> x.plan(0, 24));
        due("16 stays", 3, () -> x.planned(1));
        due("15 nothing was built", 0, () -> x.wall(0, 1));
        x.lift(0, 3);
        due("15 as high already", 0, () -> x.plan(0, 3));
        due("16 an empty plan", NO_SUCH, () -> x.planned(0));
        x.lift(0, 3);
        due("15 sits already, but is as high", 0, () -> x.plan(0, 6));
        due("15 sits behind the first lift", -1, () -> x.plan(0, 7));
        // 193, 187, 181, 176: behind four weeks it bears 15, which is enough for 14; with less air 11.
        MudWalls y = lifted("earth 10 50 0;wall 1;week 0 7;");
        due("15 five weeks", 5, () -> y.plan(0, 2));
        for (int k = 0; k < 5; k++) {
            int week = k;
            due("16 week " + k, k == 4 ? 1 : 0, () -> y.planned(week));
        }
        due("16 no sixth", NO_SUCH, () -> y.planned(5));
        MudWalls z = Check.yard("earth 50 50 20;wall 1 shoes 9 hat;");
        for (int k = 0; k < 22; k++) {
            z.lift(0, 1);
            z.weeks(0, 20);
        }
        due("15 24 in all", 1, () -> z.plan(0, 24));
        due("16 two of three", 2, () -> z.planned(0));
        due("15 six weeks are too many", -1, () -> lifted("earth 10 50 0;wall 1;week 0 6;").plan(0, 2));
    }

    private void promise17() {
        MudWalls x = Check.yard("earth 10 50 10;wall 1 shoes 3 hat;wall 1 shoes 3 hat;week 0 50;");
        due("17 both are one", NO_SUCH, () -> x.turned(0, 0, 1, 0));
        due("17 no wall", NO_SUCH, () -> x.turned(2, 0, 1, 0));
        due("17 no other", NO_SUCH, () -> x.turned(0, -1, 9, 0));
        due("17 what 2", NO_SUCH, () -> x.turned(0, 1, 9, 2));
        due("17 what -1", NO_SUCH, () -> x.turned(0, 1, 1, -1));
        due("17 no weeks", ILLEGAL, () -> x.turned(0, 1, 0, 0));
        due("17 nine weeks", ILLEGAL, () -> x.turned(0, 1, 9, 1));
        due("17 one week", 3, () -> x.turned(0, 1, 1, 0));
        due("17 the first", 0, () -> x.turned(0, 1, 1, 1));
        due("17 two weeks", 6, () -> x.turned(0, 1, 2, 0));
        due("17 the first twice", 0, () -> x.turned(0, 1, 2, 1));
        x.lift(0, 1);
        x.hollow(0, 0, 0);
        due("17 the other", 3, () -> x.turned(0, 1, 1, 0));
        due("17 the second", 1, () -> x.turned(0, 1, 1, 1));
        due("17 turned about", 0, () -> x.turned(1, 0, 1, 1));
        due("17 nothing was built", 0, () -> x.wall(1, 1));
        MudWalls y = Check.yard("earth 0 50 0;wall 1;wall 1;week 0 0;");
        // Nothing dries: one layer on each ground, one more never.
        due("17 one each", 2, () -> y.turned(0, 1, 8, 0));
        due("17 first as a row: the first until the last week", 128, () -> y.turned(0, 1, 8, 1));
    }

    private void promise18() {
        MudWalls x = Check.yard("wall 1 ground 20;week 0 30;");
        due("18 no wall", NO_SUCH, () -> x.line(1, 0, 0));
        due("18 what 3", NO_SUCH, () -> x.line(0, 0, 3));
        due("18 what -1", NO_SUCH, () -> x.line(0, 1, -1));
        due("18 no weeks", ILLEGAL, () -> x.line(0, 0, 0));
        due("18 too many", ILLEGAL, () -> x.line(0, 521, 2));
        due("18 no foot: shoes", 0, () -> x.line(0, 520, 0));
        due("18 no foot: lets", 0, () -> x.line(0, 520, 1));
        due("18 no foot: never", -1, () -> x.line(0, 520, 2));
        x.lift(0, 1);
        // 220 dries to 184, 213 to 180, 206 to 175.
        due("18 shoes", 2, () -> x.line(0, 1, 0));
        due("18 shoes for years", 2, () -> x.line(0, 520, 0));
        due("18 no coat helps", -1, () -> x.line(0, 1, 1));
        due("18 foot", 1, () -> x.line(0, 520, 2));
        x.work(0, 3);
        due("18 now doesn't count", -1, () -> x.line(0, 1, 2));
        due("18 nothing went by", 0, () -> x.wall(0, 8));
        due("18 shoes are as they were", 3, () -> x.wall(0, 3));
        due("18 three shoes", 3, () -> lifted("wall 1 ground 20;week 0 21;").line(0, 1, 0));
        due("18 no shoes help", -1, () -> lifted("wall 1 ground 20;week 0 20;").line(0, 1, 0));
        // Hard behind its coat; without it 136, 156, 169, 177, 182: nothing is the same ever after until then.
        MudWalls z = lifted("wall 1 hat outer 0;week 99 35;");
        z.weeks(0, 40);
        due("18 never behind the coat", -1, () -> z.line(0, 520, 2));
        z.work(0, 0);
        due("18 the fifth week", 5, () -> z.line(0, 520, 2));
        due("18 not in four", -1, () -> z.line(0, 4, 2));
        z.weeks(0, 5);
        due("18 so it comes", 182, () -> z.cell(0, 0, 0, 0));
        int[] airs = {20, 21, 22, 23, 30, 41, 42};
        int[] lets = {-1, 100, 100, 90, 40, 10, 0};
        for (int k = 0; k < airs.length; k++) {
            int air = airs[k];
            due("18 lets by " + air, lets[k], () -> lifted("wall 1 hat outer 55;week 0 " + air + ";").line(0, 1, 1));
        }
        MudWalls y = Check.yard("wall 1 hat outer 0;week 0 99;week 90 0;week 90 0;");
        y.lift(0, 1);
        // Without a coat 101, by two wet weeks 45 more each: 191 in the third; with 80 lets 36 each: 181; with 70 less.
        due("18 foot in the second wet week", 3, () -> foot(y, 100));
        due("18 lets", -1, () -> foot(y, 70));
    }

    private long foot(MudWalls told, int outer) {
        MudWalls y = Check.yard("wall 1 hat outer " + outer + ";week 0 99;week 90 0;week 90 0;");
        y.lift(0, 1);
        due("18 lets are the same", told.line(0, 3, 1), () -> y.line(0, 3, 1));
        return y.line(0, 3, 2);
    }

    private void promise19() {
        MudWalls x = Check.yard("wall 1 ground 9 shoes 5 outer 10 inner 20;");
        for (int k : new int[] {MIN, -1, 6, MAX}) {
            check.dueOf("19 no work " + k, NO_SUCH, () -> x.work(0, k));
        }
        check.dueOf("19 no wall", NO_SUCH, () -> x.work(1, 0));
        long[][] after = {{9, 5, 0, 100, 20, 0}, {9, 5, 0, 100, 100, 0}, {9, 5, 1, 100, 100, 0}, {9, 8, 1, 100, 100, 0},
            {9, 8, 1, 100, 100, 1}, {0, 8, 1, 100, 100, 1}};
        for (int k = 0; k < 6; k++) {
            x.work(0, k);
            for (int what = 2; what < 8; what++) {
                int trait = what;
                due("19 work " + k + " trait " + what, after[k][what - 2], () -> x.wall(0, trait));
            }
        }
        x.work(0, 3);
        due("19 nine at most", 9, () -> x.wall(0, 3));
        due("19 no week", 0, () -> x.wall(0, 8));
    }

    private void promises20And21() {
        MudWalls x = Check.yard("earth 0 50 0;wall 1;week 0 0;");
        due("20 no wall", NO_SUCH, () -> x.order(1, 64));
        due("20 64", ILLEGAL, () -> x.order(0, 64));
        due("20 below 0", ILLEGAL, () -> x.order(0, -1));
        x.lift(0, 3);
        x.weeks(0, 2);
        due("20 no works", 6, () -> x.order(0, 0));
        due("21 no works", NO_SUCH, () -> x.ordered(0));
        due("20 it falls", -1, () -> x.order(0, 1));
        due("20 a prop", 6, () -> x.order(0, 16));
        due("21 a prop", 4, () -> x.ordered(0));
        due("20 the prop first", 6, () -> x.order(0, 1 + 4 + 16));
        due("21 first", 4, () -> x.ordered(0));
        due("21 second", 0, () -> x.ordered(1));
        due("21 third", 2, () -> x.ordered(2));
        due("21 no fourth", NO_SUCH, () -> x.ordered(3));
        due("21 below 0", NO_SUCH, () -> x.ordered(-1));
        due("20 none", -1, () -> x.order(0, 2 + 8));
        due("21 stays", 4, () -> x.ordered(0));
        due("20 nothing was done", 0, () -> x.wall(0, 7));
        due("20 nothing went by", 2, () -> x.wall(0, 8));
    }

    private void promises22And23() {
        MudWalls x = new MudWalls();
        long[] none = {-1, -1, 50, 7};
        mixes("23 none", x, none);
        due("22 below 0", -1, () -> x.brick(-1, true));
        due("22 101", -1, () -> x.brick(101, false));
        due("22 status", 2, () -> x.count(10));
        due("22 30 cracks", 1, () -> x.brick(30, true));
        mixes("23 one end", x, new long[] {30, -1, 65, 7});
        due("22 whole at it", -1, () -> x.brick(30, false));
        due("22 whole below", -1, () -> x.brick(0, false));
        due("22 70 is whole", 2, () -> x.brick(70, false));
        due("22 cracked at it", -1, () -> x.brick(70, true));
        due("22 cracked above", -1, () -> x.brick(100, true));
        mixes("23 both", x, new long[] {30, 70, 50, 6});
        due("22 again", 3, () -> x.brick(30, true));
        due("22 less", 4, () -> x.brick(10, true));
        due("22 more", 5, () -> x.brick(90, false));
        mixes("23 no news", x, new long[] {30, 70, 50, 6});
        due("22 31", 6, () -> x.brick(31, false));
        mixes("23 side by side", x, new long[] {30, 31, 30, 0});
        for (int k = 7; k <= 40; k++) {
            due("22 trial " + k, k, () -> x.brick(100, false));
        }
        due("22 41", -1, () -> x.brick(100, false));
        due("22 status again", 7, () -> x.count(10));
        wrongWhats("23", 0, 3, x::mix);
        MudWalls y = new MudWalls();
        due("22 100 cracks", 1, () -> y.brick(100, true));
        mixes("23 all crack", y, new long[] {100, -1, 100, 0});
        MudWalls z = new MudWalls();
        due("22 0 is whole", 1, () -> z.brick(0, false));
        mixes("23 none cracks", z, new long[] {-1, 0, 0, 0});
        due("22 0 cracks", -1, () -> z.brick(0, true));
    }

    private void mixes(String what, MudWalls x, long[] want) {
        for (int k = 0; k < 4; k++) {
            int trait = k;
            due(what + " " + k, want[k], () -> x.mix(trait));
        }
    }

    private void promises24And25() {
        MudWalls x = new MudWalls();
        int[][] wrong = {{-1, 1, 1}, {1001, 1, 1}, {1, -1, 1}, {1, 100, 1}, {1, 1, 0}, {1, 1, 1000}};
        for (int[] h : wrong) {
            due("24 wrong", -1, () -> x.house(h[0], h[1], h[2]));
        }
        due("24 status", 6, () -> x.count(11));
        due("24 the least", 1, () -> x.house(0, 0, 1));
        due("24 the most", 2, () -> x.house(1000, 99, 999));
        houses("25 nothing is worth nothing", x, 998, 0, 0, 0);
        houses("25 just so much", x, 999, 99000, 999, 2);
        due("24", 3, () -> x.house(10, 10, 5));
        due("24", 4, () -> x.house(10, 10, 5));
        due("24", 5, () -> x.house(20, 5, 4));
        houses("25 least cost", x, 5, 100, 4, 16);
        houses("25 two of three", x, 9, 200, 9, 16 + 4);
        houses("25 least as bits", x, 13, 200, 9, 16 + 4);
        houses("25 all that are worth", x, 9999, 99300, 1013, 2 + 4 + 8 + 16);
        for (int k = 6; k <= 12; k++) {
            due("24 house " + k, k, () -> x.house(1, 1, 1));
        }
        due("24 13", -1, () -> x.house(1, 1, 1));
        due("24 status again", 7, () -> x.count(11));
        houses("25 twelve", x, 9999, 99307, 1020, 4095 - 1);
        houses("25 no coin", x, 0, 0, 0, 0);
        due("25 below 0", ILLEGAL, () -> x.first(-1, 0));
        due("25 10000", ILLEGAL, () -> x.first(10000, 2));
        wrongWhats("25", 0, 2, k -> x.first(-1, k));
    }

    private void houses(String what, MudWalls x, int coin, int worth, int cost, int set) {
        due(what + " 0", worth, () -> x.first(coin, 0));
        due(what + " 1", cost, () -> x.first(coin, 1));
        due(what + " 2", set, () -> x.first(coin, 2));
    }

    private void promises26To29() {
        MudWalls x = Check.yard("wall 1;wall 3;");
        check.dueOf("26 no wall", NO_SUCH, () -> x.guess(0, 2));
        check.dueOf("26 no guess", NO_SUCH, () -> x.guess(4, 0));
        check.dueOf("26 below 0", NO_SUCH, () -> x.guess(-1, 0));
        due("28 none", -1, () -> x.credit(0));
        wrongWhats("28", 0, 3, x::credit);
        check.dueOf("26 an empty wall", 0, () -> x.guess(0, 0));
        due("28 kept", 0, () -> x.credit(0));
        due("27 none fits", 0, () -> x.stick(0, 0, 200, 50));
        x.lift(0, 2);
        x.lift(1, 1);
        x.guess(1, 0);
        x.guess(2, 1);
        due("29 the first they have", 0, () -> x.where());
        due("27 two fit", 2, () -> x.stick(0, 0, 200, 0));
        due("27 one has it", 1, () -> x.stick(1, 0, 190, 10));
        due("27 too far off", 0, () -> x.stick(1, 0, 189, 10));
        due("27 beside", 1, () -> x.stick(0, 2, 250, 50));
        due("27 nowhere", 0, () -> x.stick(23, 5, 400, 50));
        due("28 one", 2, () -> x.credit(1));
        due("28 the other", 2, () -> x.credit(2));
        due("28 the empty one", 0, () -> x.credit(0));
        x.weeks(0, 2);
        x.guess(3, 0);
        // 167 below and 164 above where 200 were.
        due("29 above", 6, () -> x.where());
        x.guess(1, 0);
        due("28 anew", 0, () -> x.credit(1));
        due("29 below", 0, () -> x.where());
        int[][] wrong = {{-1, 0, 0, 0}, {24, 0, 0, 0}, {0, -1, 0, 0}, {0, 6, 0, 0}, {0, 0, -1, 0}, {0, 0, 401, 0}, {0, 0, 0, -1}, {0, 0, 0, 51}};
        for (int[] s : wrong) {
            due("27 wrong", ILLEGAL, () -> x.stick(s[0], s[1], s[2], s[3]));
        }
        MudWalls y = Check.yard("wall 1;wall 2;");
        y.lift(0, 1);
        y.guess(0, 0);
        due("29 one alone", -1, () -> y.where());
        y.guess(1, 1);
        due("29 nothing in common", -1, () -> y.where());
        y.lift(1, 2);
        y.guess(1, 1);
        due("29 one in common", 0, () -> y.where());
        due("27 no water", 0, () -> y.stick(0, 0, 0, 0));
    }

    private void promises30And31() {
        MudWalls x = Check.yard("earth 0 50 0;wall 1 ground 3 outer 50 inner 50;wall 2;week 9 30;week 0 50 frost;");
        due("31 none", 0, () -> x.restore() ? 1 : 0);
        x.lift(0, 2);
        x.lift(0, 0);
        x.weeks(0, 1);
        long[] before = state(x);
        x.image();
        for (int k = 0; k < 6; k++) {
            x.work(0, k);
        }
        x.lift(0, 9);
        x.hollow(0, 0, 0);
        x.lift(1, 3);
        x.lift(1, 0);
        x.brick(-1, true);
        x.house(1, 1, 0);
        x.brick(5, true);
        x.house(7, 1, 1);
        x.guess(0, 0);
        x.plan(1, 3);
        Check.tell(x, "nonsense");
        x.weeks(0, 7);
        due("31 restored", 1, () -> x.restore() ? 1 : 0);
        long[] after = state(x);
        for (int k = 0; k < before.length; k++) {
            check.same("31 state " + k, before[k], after[k]);
        }
        due("31 bricks stay", 5, () -> x.mix(0));
        due("31 houses stay", 7, () -> x.first(1, 0));
        due("31 guesses stay", 0, () -> x.credit(0));
        due("31 the fault's place stays", 0, () -> x.fault());
        x.down(0);
        x.image();
        x.down(0);
        due("31 the later one", 1, () -> x.restore() ? 1 : 0);
        due("31 of one layer", 1, () -> x.wall(0, 1));
        due("31 again", 1, () -> x.restore() ? 1 : 0);
        MudWalls y = new MudWalls();
        y.image();
        y.brick(-1, false);
        due("31 of no walls", 1, () -> y.restore() ? 1 : 0);
        due("31 status is back", 0, () -> y.count(10));
    }

    private static long[] state(MudWalls x) {
        long[] row = new long[12 + 2 * 12 + 2 * (4 + 6)];
        int n = 0;
        for (int k = 0; k < 12; k++) {
            row[n++] = x.count(k);
        }
        for (int w = 0; w < 2; w++) {
            for (int k = 0; k < 12; k++) {
                row[n++] = x.wall(w, k);
            }
        }
        for (int layer = 0; layer < 2; layer++) {
            for (int k = 0; k < 4; k++) {
                row[n++] = x.layer(0, layer, k);
            }
            for (int k = 0; k < 6; k++) {
                row[n++] = x.cell(0, layer, 0, k);
            }
        }
        return row;
    }
}
