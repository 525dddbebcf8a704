/**
 * The edges of tape, TEXT and YARD (==== 1. of the document, promises 1 to 5): each method has the sentence above it that it
 * would catch if it were broken.
 */
public final class TextEdgeTest {
    private static final long NO_SUCH = Check.NO_SUCH;
    private static final long ILLEGAL = Check.ILLEGAL;
    private static final int MIN = Integer.MIN_VALUE;
    private static final int MAX = Integer.MAX_VALUE;

    private final Check check = new Check();

    public static void main(String[] args) {
        TextEdgeTest t = new TextEdgeTest();
        t.aNewObjectHasNoWalls();
        t.highestByteFirst();
        t.behindTheTape();
        t.tapeOf700();
        t.fedAgainBehindAYard();
        t.textOf700();
        t.textOf700WithAFaultAtItsEnd();
        t.onlyTheFirstBytes();
        t.emptyText();
        t.tapeIsEmptyThen();
        t.signsOfWords();
        t.longestRow();
        t.otherWords();
        t.digits();
        t.blanks();
        t.blanksCountForNothing();
        t.grammarOfEarth();
        t.grammarOfWall();
        t.grammarOfWeek();
        t.partsOutOfTheirOrder();
        t.lineEndsWithItsSign();
        t.rangesOfEarth();
        t.rangesOfWall();
        t.rangesOfWeek();
        t.whatIsThereWithout();
        t.fourWalls();
        t.thirtyWeeks();
        t.weeksComeRound();
        t.withoutAnyWeek();
        t.firstFaultAlongTheText();
        t.leastFaultOfOneToken();
        t.endsTooSoon();
        t.fiveDigits();
        t.secondEarth();
        t.earthAtItsEnds();
        t.allAnew();
        t.goneWithANewYard();
        t.statusOutlivesANewYard();
        t.placeOfTheLatestFault();
        t.counts();
        t.atMost512Calls();
        t.check.end();
    }

    private void due(String what, long want, Check.Call call) {
        check.due(what, want, call);
    }

    /** The text's FAULT on a new object, its place, and that it was counted. */
    private void text(String text, int fault, int place) {
        MudWalls x = new MudWalls();
        due("3 " + text, fault, () -> Check.tell(x, text));
        due("4 " + text, place, x::fault);
        due("5 " + text, fault == 0 ? 0 : 1, () -> x.count(8));
    }

    private void good(String text) {
        text(text, 0, -1);
    }

    /** Promise 1: "No WALLS." */
    private void aNewObjectHasNoWalls() {
        MudWalls x = new MudWalls();
        due("1 none", 0, () -> x.count(0));
        for (int w = 0; w < 4; w++) {
            int wall = w;
            due("1 wall", NO_SUCH, () -> x.wall(wall, 0));
            due("1 cell", NO_SUCH, () -> x.cell(wall, 0, 0, 0));
            due("1 layer", NO_SUCH, () -> x.layer(wall, 0, 0));
            due("1 lift", NO_SUCH, () -> x.lift(wall, 1));
            due("1 down", NO_SUCH, () -> x.down(wall));
            check.dueOf("1 hollow", NO_SUCH, () -> x.hollow(wall, 0, 0));
            due("1 weeks", NO_SUCH, () -> x.weeks(wall, 0));
            due("1 high", NO_SUCH, () -> x.high(wall));
            due("1 when", NO_SUCH, () -> x.when(wall, 1));
            due("1 plan", NO_SUCH, () -> x.plan(wall, 1));
            due("1 turned", NO_SUCH, () -> x.turned(wall, (wall + 1) % 4, 1, 0));
            due("1 line", NO_SUCH, () -> x.line(wall, 1, 0));
            check.dueOf("1 work", NO_SUCH, () -> x.work(wall, 0));
            due("1 order", NO_SUCH, () -> x.order(wall, 0));
            check.dueOf("1 guess", NO_SUCH, () -> x.guess(wall, wall));
        }
        due("1 the earth without", 190, () -> x.count(2));
        due("1 no FAULT", -1, x::fault);
        due("1 no image", 0, () -> x.restore() ? 1 : 0);
        due("1 nothing told", 0, () -> x.yard(0));
    }

    /** Blanks alone but for one byte that is no TOKEN: its place is the FAULT's. */
    private void strangeByteAt(MudWalls x, int place, int rows, int sign) {
        for (int row = 0; row < rows; row++) {
            int[] n = {0x20202020, 0x20202020, 0x20202020, 0x20202020, 0x20202020};
            int at = place - 20 * row;
            if (at >= 0 && at < 20) {
                int shift = 24 - 8 * (at % 4);
                n[at / 4] = n[at / 4] & ~(255 << shift) | sign << shift;
            }
            x.feed(n[0], n[1], n[2], n[3], n[4]);
        }
    }

    /** Promise 2: "Twenty bytes come behind the tape, of each number the highest first". */
    private void highestByteFirst() {
        for (int sign : new int[] {0, 1, 127, 128, 255}) {
            for (int place = 0; place < 20; place++) {
                MudWalls x = new MudWalls();
                strangeByteAt(x, place, 1, sign);
                due("2 byte " + sign + " at " + place, 1, () -> x.yard(20));
                due("2 its place", place, x::fault);
            }
        }
    }

    /** Promise 2: "come behind the tape ..: how many it has". */
    private void behindTheTape() {
        for (int place : new int[] {19, 20, 39, 40, 679, 680, 699}) {
            MudWalls x = new MudWalls();
            strangeByteAt(x, place, 35, 1);
            due("2 35 rows", 700, () -> x.count(5));
            due("2 a fault", 1, () -> x.yard(700));
            due("2 its place", place, x::fault);
        }
    }

    /** Promise 2: "NONE, and none come, if it would have more than 700." */
    private void tapeOf700() {
        MudWalls x = new MudWalls();
        for (int k = 1; k <= 35; k++) {
            due("2 feed " + k, 20 * k, () -> x.feed(0x20202020, 0x20202020, 0x20202020, 0x20202020, 0x20202020));
        }
        for (int k = 0; k < 3; k++) {
            due("2 too many", -1, () -> x.feed(1, 1, 1, 1, 1));
            due("2 none came", 700, () -> x.count(5));
        }
        due("2 nor over the others", 0, () -> x.yard(700));
    }

    /** Promise 3: "it is empty then": there is room for 700 again. */
    private void fedAgainBehindAYard() {
        MudWalls x = new MudWalls();
        for (int round = 0; round < 3; round++) {
            for (int k = 1; k <= 35; k++) {
                due("2 again " + k, 20 * k, () -> x.feed(0x77616c6c, 0x20313b20, 0x20202020, 0x20202020, 0x20202020));
            }
            due("2 full again", -1, () -> x.feed(1, 1, 1, 1, 1));
            int n = round == 0 ? 700 : round == 1 ? 80 : 0;
            due("3 of " + n, round == 0 ? 2 : 0, () -> x.yard(n));
            due("3 it is empty then", 0, () -> x.count(5));
        }
    }

    /** 4 by 49, 15, 28 by 17 and 13 bytes: 700, and none of them a blank too many but two. */
    private static String longest() {
        return "wall 6 ground 20 shoes 9 hat outer 100 inner 100;".repeat(4) + "earth 99 99 99;" + "week 99 99 frost;".repeat(28) + "week 99 99  ;";
    }

    /** ==== 1.: "A TEXT of at most 700 bytes tells a YARD". */
    private void textOf700() {
        check.same("the text has", 700, longest().length());
        MudWalls x = new MudWalls();
        due("3 of 700", 0, () -> Check.tell(x, longest()));
        due("3 no FAULT", -1, x::fault);
        due("5 walls", 4, () -> x.count(0));
        due("5 weeks", 29, () -> x.count(1));
        due("5 full", 1030, () -> x.count(2));
        long[] want = {6, 0, 20, 9, 1, 100, 100};
        for (int k = 0; k < want.length; k++) {
            int what = k;
            due("6 the last wall " + k, want[k], () -> x.wall(3, what));
        }
    }

    /** ==== 1.: FAULTS "at a TOKEN's first byte", "the text's length where it ends too soon", of a full tape. */
    private void textOf700WithAFaultAtItsEnd() {
        String text = longest().substring(0, 699);
        text(text + " ", 1, 700);
        text(text + "x", 1, 699);
        text(text + "\t", 1, 699);
        text(text, 1, 699);
        MudWalls x = new MudWalls();
        Check.feed(x, longest());
        due("3 all but the last byte", 1, () -> x.yard(699));
        due("4 ends too soon", 699, x::fault);
    }

    /** Promise 3: "The tape's first n bytes". */
    private void onlyTheFirstBytes() {
        String text = "wall 2;wall 3;oops; ";
        int[] faults = {0, 1, 1, 1, 1, 1, 1, 0, 1, 1, 1, 1, 1, 1, 0, 1, 1, 1, 1, 1, 1};
        int[] places = {-1, 0, 0, 0, 4, 5, 6, -1, 7, 7, 7, 11, 12, 13, -1, 14, 14, 14, 14, 14, 14};
        for (int n = 0; n <= 20; n++) {
            int bytes = n;
            MudWalls x = new MudWalls();
            Check.feed(x, text);
            due("3 the first " + n, faults[n], () -> x.yard(bytes));
            due("4 the first " + n, places[n], x::fault);
            due("5 walls of the first " + n, n == 7 ? 1 : n == 14 ? 2 : 0, () -> x.count(0));
        }
    }

    /** ==== 1.: "YARD: LINE*": without a LINE it is one, too. */
    private void emptyText() {
        MudWalls x = Check.yard("earth 1 2 3;wall 4;week 5 6;");
        due("3 of no bytes", 0, () -> x.yard(0));
        due("5 no walls", 0, () -> x.count(0));
        due("5 no weeks", 0, () -> x.count(1));
        due("5 the earth without", 190, () -> x.count(2));
        due("6 no wall", NO_SUCH, () -> x.wall(0, 0));
        good("");
        good(" ");
        good("\n");
        good(" \n".repeat(350));
    }

    /** Promise 3: "(it is empty then)", by a good text, by one with a FAULT, by one of no bytes. */
    private void tapeIsEmptyThen() {
        String[] texts = {"wall 1;              ", "wall 1 oops", "wall 1;wall 9;", ""};
        for (String text : texts) {
            for (int n = 0; n <= text.length(); n += 7) {
                int bytes = n;
                MudWalls x = new MudWalls();
                Check.feed(x, text + " ".repeat(20));
                Check.of(() -> x.yard(bytes));
                due("5 empty behind " + n + " of " + text, 0, () -> x.count(5));
                due("3 has none", ILLEGAL, () -> x.yard(1));
                due("2 begins anew", 20, () -> x.feed(0x77616c6c, 0x20323b20, 0x20202020, 0x20202020, 0x20202020));
                due("3 begins anew", 0, () -> x.yard(20));
                due("6 begins anew", 2, () -> x.wall(0, 0));
            }
        }
    }

    /** ==== 1.: "words (a .. z ..)": the signs beside a and z, and A to Z, are none. */
    private void signsOfWords() {
        text("walla 1;", 1, 0);
        text("wallz 1;", 1, 0);
        text("wall` 1;", 1, 4);
        text("wall{ 1;", 1, 4);
        text("awall 1;", 1, 0);
        text("zwall 1;", 1, 0);
        text("`wall 1;", 1, 0);
        text("wall 1;`", 1, 7);
        text("wall 1;{", 1, 7);
        text("wall 1;A", 1, 7);
        text("wallA 1;", 1, 4);
        text("wallZ 1;", 1, 4);
        text("WALL 1;", 1, 0);
        text("wall 1 \u00e1;", 1, 7);
        text("wall 1 \u00ff;", 1, 7);
    }

    /** ==== 1.: "the longest row": of words, and a NUMBER's digits belong together likewise. */
    private void longestRow() {
        text("wallhat 1;", 1, 0);
        text("wall 1 hathat;", 1, 7);
        text("wall 1 shoes2hat;", 0, -1);
        text("wall 1 ground2shoes3hat outer4inner5;", 0, -1);
        text("wall 1 hatouter 5;", 1, 7);
        text("wall 1 ground 2 0;", 1, 16);
        text("wall1;wall 2;week1 2frost;earth1 2 3;", 0, -1);
        text("week 12;", 1, 7);
        text("wal", 1, 0);
        text("wal l 1;", 1, 0);
        text("week 1 2 fros;", 1, 9);
    }

    /** ==== 1.: "In quotes is what stands there": not a word with one sign changed, left out or more. */
    private void otherWords() {
        String[] lines = {"earth 1 2 3;", "wall 1;", "week 1 2;", "wall 1 ground 2;", "wall 1 shoes 2;", "wall 1 hat;", "wall 1 outer 2;",
            "wall 1 inner 2;", "week 1 2 frost;"};
        String[] words = {"earth", "wall", "week", "ground", "shoes", "hat", "outer", "inner", "frost"};
        for (int k = 0; k < lines.length; k++) {
            good(lines[k]);
            int at = lines[k].indexOf(words[k]);
            String begin = lines[k].substring(0, at);
            String end = lines[k].substring(at + words[k].length());
            for (int i = 0; i < words[k].length(); i++) {
                String head = words[k].substring(0, i);
                String tail = words[k].substring(i + 1);
                text(begin + head + "q" + tail + end, 1, at);
                text(begin + head + tail + end, 1, at);
                text(begin + head + "q" + words[k].substring(i) + end, 1, at);
            }
            text(begin + words[k] + "s" + end, 1, at);
        }
    }

    /** ==== 1.: "NUMBERS (1 to 4 digits)": 0 to 9, the signs beside them are none. */
    private void digits() {
        text("wall 1/;", 1, 6);
        text("wall 1:;", 1, 6);
        text("wall /;", 1, 5);
        text("wall :;", 1, 5);
        text("wall -1;", 1, 5);
        text("wall +1;", 1, 5);
        text("wall 1.0;", 1, 6);
        text("wall 1a;", 1, 6);
        good("week 0 9;");
        good("week 00 09;");
        good("week 000 099;");
        good("week 0000 0099;");
        text("week 00000 0;", 2, 5);
        text("week 0 00099;", 2, 7);
        MudWalls x = Check.yard("wall 0003 ground 0012 shoes 007 outer 0100 inner 089;");
        long[] want = {3, 0, 12, 7, 0, 100, 89};
        for (int k = 0; k < want.length; k++) {
            int what = k;
            due("6 digits " + k, want[k], () -> x.wall(0, what));
        }
    }

    /** ==== 1.: "blanks (32, 10)": no other sign is. */
    private void blanks() {
        for (int sign = 0; sign < 256; sign++) {
            boolean blank = sign == 32 || sign == 10;
            boolean row = sign >= 'a' && sign <= 'z';
            boolean digit = sign >= '0' && sign <= '9';
            char c = (char) sign;
            // Behind 'wall' a digit makes 01, 11 .. of the 1: only the first of them may be.
            int fault = blank || sign == '0' ? 0 : digit ? 2 : 1;
            text("wall" + c + "1;", fault, fault == 0 ? -1 : row ? 0 : 4);
            text(c + "wall 1;", blank ? 0 : 1, blank ? -1 : 0);
            text("wall 1;" + c, blank ? 0 : 1, blank ? -1 : 7);
        }
    }

    /** ==== 1.: "blanks .. between them, which count for nothing". */
    private void blanksCountForNothing() {
        MudWalls x = Check.yard("\n \nwall\n\n2  ground 3\nhat\n ;\n\n earth 1\n2\n3\n;week 4\n5\nfrost;  \n");
        due("5 walls", 1, () -> x.count(0));
        due("5 weeks", 1, () -> x.count(1));
        due("5 green", 16, () -> x.count(4));
        due("6 hat", 1, () -> x.wall(0, 4));
        text("\n\n wall 1 x", 1, 10);
        text("\n\n wall 1 9", 1, 10);
    }

    /** ==== 1.: "'earth' CLAY SAND STRAW ;": at each place what can't stand there, and the text's end. */
    private void grammarOfEarth() {
        good("earth 1 2 3;");
        text("earth", 1, 5);
        text("earth 1", 1, 7);
        text("earth 1 2", 1, 9);
        text("earth 1 2 3", 1, 11);
        text("earth;", 1, 5);
        text("earth 1;", 1, 7);
        text("earth 1 2;", 1, 9);
        text("earth 1 2 3 4;", 1, 12);
        text("earth hat 2 3;", 1, 6);
        text("earth 1 2 3 hat;", 1, 12);
        text("earth 1 2 3 wall 1;", 1, 12);
    }

    /** ==== 1.: "'wall' DEPTH [..] ;": each part may be there or not, and what follows each. */
    private void grammarOfWall() {
        String[] parts = {" ground 1", " shoes 2", " hat", " outer 3", " inner 4"};
        for (int set = 0; set < 32; set++) {
            StringBuilder b = new StringBuilder("wall 5");
            for (int k = 0; k < 5; k++) {
                b.append((set >> k & 1) == 1 ? parts[k] : "");
            }
            int there = set;
            MudWalls x = new MudWalls();
            due("3 " + b, 0, () -> Check.tell(x, b + ";"));
            long[] with = {1, 2, 1, 3, 4};
            long[] without = {0, 0, 0, 100, 100};
            for (int k = 0; k < 5; k++) {
                int what = k;
                due("6 " + b + " " + k, (there >> k & 1) == 1 ? with[k] : without[k], () -> x.wall(0, 2 + what));
            }
            text(b.toString(), 1, b.length());
            text(b + " 9;", 1, b.length() + 1);
            text(b + " frost;", 1, b.length() + 1);
            text(b + " wall 1;", 1, b.length() + 1);
            for (int k : new int[] {0, 1, 3, 4}) {
                if (set >> k == 0) {
                    String word = parts[k].substring(1, parts[k].length() - 2);
                    text(b + " " + word, 1, b.length() + 1 + word.length());
                    text(b + " " + word + ";", 1, b.length() + 1 + word.length());
                    text(b + " " + word + " hat;", 1, b.length() + 2 + word.length());
                }
            }
        }
    }

    /** ==== 1.: "'week' RAIN AIR ['frost'] ;". */
    private void grammarOfWeek() {
        good("week 1 2;");
        good("week 1 2 frost;");
        text("week", 1, 4);
        text("week 1", 1, 6);
        text("week 1 2", 1, 8);
        text("week 1 2 frost", 1, 14);
        text("week;", 1, 4);
        text("week 1;", 1, 6);
        text("week 1 frost;", 1, 7);
        text("week 1 2 3;", 1, 9);
        text("week 1 2 hat;", 1, 9);
        text("week 1 2 frost frost;", 1, 15);
        text("week 1 2 frost 3;", 1, 15);
    }

    /** ==== 1.: the parts of a 'wall' stand in one order, each but once. */
    private void partsOutOfTheirOrder() {
        String[] parts = {"ground 1", "shoes 2", "hat", "outer 3", "inner 4"};
        for (int early = 0; early < 5; early++) {
            for (int late = 0; late <= early; late++) {
                String begin = "wall 1 " + parts[early] + " ";
                text(begin + parts[late] + ";", 1, begin.length());
            }
        }
    }

    /** ==== 1.: LINE: "(..) ';'": one sign behind each, none ahead, none twice. */
    private void lineEndsWithItsSign() {
        text(";", 1, 0);
        text("wall 1;;", 1, 7);
        text("wall 1 wall 2;", 1, 7);
        text("wall 1,wall 2;", 1, 6);
        text("wall 1:", 1, 6);
        text("week 1 2 week 3 4;", 1, 9);
        text("earth 1 2 3 earth 1 2 3;", 1, 12);
        text("hat;", 1, 0);
        text("1;", 1, 0);
        text("frost;", 1, 0);
        text("ground 1;", 1, 0);
    }

    /** The least and the most are taken and told; one more, 4 digits, 5 digits are FAULT 2 at the NUMBER. */
    private void range(String before, String behind, int least, int most, Check.CallOn told) {
        for (int k = least; k <= most; k++) {
            int number = k;
            MudWalls x = new MudWalls();
            due("3 " + before + k, 0, () -> Check.tell(x, before + number + behind));
            if (told != null) {
                due("told " + before + k, number, () -> told.answer(x));
            }
        }
        for (int k : new int[] {most + 1, most + 10, 999, 1000, 9999, 10000, 99999, least - 1}) {
            if (k >= 0) {
                text(before + k + behind, 2, before.length());
            }
        }
        text(before + "-1" + behind, 1, before.length());
        text(before + "4294967296" + behind, 2, before.length());
        text(before + "00000" + behind, 2, before.length());
        text(before + "18446744073709551617" + behind, 2, before.length());
    }

    /** ==== 1.: "CLAY, SAND, STRAW 0 to 99". FULL is 40 without clay and straw, SHRINK is -SAND, GREEN 10 and 2 by STRAW. */
    private void rangesOfEarth() {
        range("earth ", " 0 0;", 0, 99, x -> (x.count(2) - 40) / 4);
        range("earth 0 ", " 0;", 0, 99, x -> -x.count(3));
        range("earth 0 0 ", ";", 0, 99, x -> (x.count(4) - 10) / 2);
    }

    /** ==== 1.: "DEPTH 1 to 6, 'ground' 0 to 20, 'shoes' 0 to 9, 'outer', 'inner' .. (0 to 100)". */
    private void rangesOfWall() {
        range("wall ", ";", 1, 6, x -> x.wall(0, 0));
        range("wall 1 ground ", ";", 0, 20, x -> x.wall(0, 2));
        range("wall 1 shoes ", ";", 0, 9, x -> x.wall(0, 3));
        range("wall 1 outer ", ";", 0, 100, x -> x.wall(0, 5));
        range("wall 1 inner ", ";", 0, 100, x -> x.wall(0, 6));
    }

    /** ==== 1.: "RAIN, AIR 0 to 99": RAIN on the top of one fresh layer, or AIR that dries so much of it. */
    private void rangesOfWeek() {
        range("wall 1 shoes 3;week ", " 0;", 0, 99, x -> behindAWeek(x) - 200);
        range("wall 1 shoes 3;week 0 ", ";", 0, 99, x -> 200 - behindAWeek(x));
    }

    private static long behindAWeek(MudWalls x) {
        x.lift(0, 1);
        x.weeks(0, 1);
        return x.cell(0, 0, 0, 0);
    }

    /** ==== 1.: "(30, 50, 5 without)", "(0 without)", "(0)", "(0 to 100; 100)". */
    private void whatIsThereWithout() {
        MudWalls x = Check.yard("wall 1;");
        due("5 full", 40 + 4 * 30 + 6 * 5, () -> x.count(2));
        due("5 shrink", 3 * 30 - 50 - 2 * 5, () -> x.count(3));
        due("5 green", 10 + 2 * 5, () -> x.count(4));
        long[] want = {1, 0, 0, 0, 0, 100, 100, 0, 0, 0, 0, 0};
        for (int k = 0; k < want.length; k++) {
            int what = k;
            due("6 without " + k, want[k], () -> x.wall(0, what));
        }
    }

    /** ==== 1.: "WALLS 0, 1 .. (at most 4)"; FAULT 2: "the first TOKEN of the 5th WALL". */
    private void fourWalls() {
        String text = "wall 1;wall 2;wall 3;wall 4;";
        MudWalls x = Check.yard(text);
        for (int w = 0; w < 4; w++) {
            int wall = w;
            due("6 depth of " + w, w + 1, () -> x.wall(wall, 0));
        }
        due("6 no 5th", NO_SUCH, () -> x.wall(4, 0));
        text(text + "wall 5;", 2, 28);
        text(text + " wall", 2, 29);
        text(text + "wall 9;", 2, 28);
        text(text + "wall;", 2, 28);
        text(text + "walls 5;", 1, 28);
        text(text + "earth 1 2 3;week 1 2;wall 1;", 2, 49);
        good(text + "earth 1 2 3;week 1 2;");
    }

    /** ==== 1.: "At most 30 WEEKS"; FAULT 2: "the 31st WEEK" at its first TOKEN. */
    private void thirtyWeeks() {
        String text = "week 1 2;".repeat(30);
        MudWalls x = Check.yard(text);
        due("5 weeks", 30, () -> x.count(1));
        text(text + "week 1 2;", 2, 270);
        text(text + "\nweek", 2, 271);
        text(text + "week 1 200;", 2, 270);
        text(text + "weeks 1 2;", 1, 270);
        good(text + "wall 1;earth 1 2 3;");
        due("5 29 weeks", 29, () -> Check.yard("week 1 2;".repeat(29)).count(1));
    }

    /** ==== 1.: "they come round and round": the 31st is the first one, the 61st too, of 30; of one each. */
    private void weeksComeRound() {
        MudWalls x = Check.yard("wall 1 shoes 3;week 3 0;" + "week 0 0;".repeat(28) + "week 1 0;");
        x.lift(0, 1);
        int[] weeks = {1, 28, 1, 1, 28, 1, 1, 28, 1, 1};
        int[] water = {203, 203, 204, 207, 207, 208, 211, 211, 212, 215};
        for (int k = 0; k < weeks.length; k++) {
            x.weeks(0, weeks[k]);
            due("12 round " + k, water[k], () -> x.cell(0, 0, 0, 0));
        }
        due("6 weeks that went by", 91, () -> x.wall(0, 8));
        MudWalls y = Check.yard("wall 1 shoes 3;week 2 0;");
        y.lift(0, 1);
        y.weeks(0, 7);
        due("12 one week alone", 214, () -> y.cell(0, 0, 0, 0));
    }

    /** ==== 1.: "(without any: no RAIN, AIR 20)", and no frost. */
    private void withoutAnyWeek() {
        MudWalls x = Check.yard("wall 1;");
        x.lift(0, 1);
        x.weeks(0, 1);
        due("12 dried by 20", 180, () -> x.cell(0, 0, 0, 0));
        due("12 no frost", 0, () -> x.cell(0, 0, 0, 1));
        due("5 no rain came", 200, () -> x.count(6));
        due("5 none told", 0, () -> x.count(1));
    }

    /** ==== 1.: "FAULTS, the first along the text". */
    private void firstFaultAlongTheText() {
        text("wall 9;wall;", 2, 5);
        text("wall;wall 9;", 1, 4);
        text("wall 1 ground 21 ground;", 2, 14);
        text("wall 1 ground ground 21;", 1, 14);
        text("earth 1 2 3;earth 1 2 100;", 3, 12);
        text("earth 1 2 100;earth 1 2 3;", 2, 10);
        text("earth 1 2 3;wall x;earth 1 2 3;", 1, 17);
        text("wall 1;".repeat(5) + "oops", 2, 28);
        text("oops" + "wall 1;".repeat(5), 1, 0);
        text("wall 1;".repeat(4) + "oops wall 1;", 1, 28);
    }

    /** ==== 1.: "of one TOKEN the least": 1 ahead of 2 and of 3. */
    private void leastFaultOfOneToken() {
        text("12345", 1, 0);
        text("wall 1 12345;", 1, 7);
        text("week 1 2 12345;", 1, 9);
        text("earth 1 2 3 12345;", 1, 12);
        text("earth 1 2 3;wall earth;", 1, 17);
        text("earth 1 2 3;week 1 earth 2;", 1, 19);
        text("wall 1;".repeat(4) + "week wall", 1, 33);
        text("week 1 2;".repeat(30) + "wall week", 1, 275);
    }

    /** ==== 1.: "(the text's length where it ends too soon)", blanks at its end too. */
    private void endsTooSoon() {
        text("wall", 1, 4);
        text("wall ", 1, 5);
        text("wall\n\n\n", 1, 7);
        text("wall 1 ground", 1, 13);
        text("wall 1 ground  ", 1, 15);
        text("week 1 2 frost ", 1, 15);
        text("wall 1;week 1", 1, 13);
        MudWalls x = new MudWalls();
        Check.feed(x, "wall 1;");
        due("3 of the first 6 bytes", 1, () -> x.yard(6));
        due("4 their length, not the tape's", 6, x::fault);
    }

    /** ==== 1.: "2 .. a NUMBER of 5 digits or more". */
    private void fiveDigits() {
        good("wall 0006;");
        text("wall 00006;", 2, 5);
        text("wall 000001;", 2, 5);
        text("wall 1" + "0".repeat(600) + ";", 2, 5);
        text("wall " + "0".repeat(695), 2, 5);
        text("wall 1 shoes 00000;", 2, 13);
    }

    /** ==== 1.: "3 a second 'earth'", at its first byte, whatever follows. */
    private void secondEarth() {
        text("earth 1 2 3;earth 1 2 3;", 3, 12);
        text("earth 1 2 3; \nearth", 3, 14);
        text("earth 1 2 3;earth 100 2 3;", 3, 12);
        text("earth 1 2 3;earth;", 3, 12);
        text("earth 1 2 3;wall 1;week 1 2;earth 1 2 3;", 3, 28);
        text("earth 1 2 3;earths 1 2 3;", 1, 12);
        // The first one had a FAULT: it told no earth.
        MudWalls x = new MudWalls();
        Check.tell(x, "earth 1 2 3;oops");
        due("3 of another text", 0, () -> Check.tell(x, "earth 4 5 6;"));
        due("3 and once more", 0, () -> Check.tell(x, "earth 7 8 9;"));
    }

    private void earth(String text, int full, int shrink, int green) {
        MudWalls x = Check.yard(text);
        due("5 full " + text, full, () -> x.count(2));
        due("5 shrink " + text, shrink, () -> x.count(3));
        due("5 green " + text, green, () -> x.count(4));
    }

    /** ==== 1.: "FULL: 40 and 4 by CLAY and 6 by STRAW. SHRINK: 3 by CLAY less SAND less 2 by STRAW. GREEN: 10 and 2 by STRAW." */
    private void earthAtItsEnds() {
        earth("earth 0 0 0;", 40, 0, 10);
        earth("earth 99 0 0;", 436, 297, 10);
        earth("earth 0 99 0;", 40, -99, 10);
        earth("earth 0 0 99;", 634, -198, 208);
        earth("earth 99 99 99;", 1030, 0, 208);
        earth("earth 0 99 99;", 634, -297, 208);
        earth("earth 1 1 1;", 50, 0, 12);
    }

    /** Promise 3: "are a YARD, all anew". */
    private void allAnew() {
        MudWalls x = Check.yard("earth 1 2 3;wall 2 ground 5 shoes 1 hat outer 7 inner 8;wall 3;week 9 9 frost;week 1 1;");
        x.lift(0, 3);
        x.lift(1, 2);
        x.weeks(0, 6);
        x.work(0, 4);
        x.hollow(1, 0, 0);
        due("3 anew", 0, () -> Check.tell(x, "wall 1;"));
        due("5 one wall", 1, () -> x.count(0));
        due("6 the second is gone", NO_SUCH, () -> x.wall(1, 0));
        long[] want = {1, 0, 0, 0, 0, 100, 100, 0, 0, 0, 0, 0};
        for (int k = 0; k < want.length; k++) {
            int what = k;
            due("6 anew " + k, want[k], () -> x.wall(0, what));
        }
        due("5 no weeks", 0, () -> x.count(1));
        due("5 earth as without", 190, () -> x.count(2));
        x.lift(0, 1);
        due("7 not hollow", 0, () -> x.cell(0, 0, 0, 2));
        due("8 no bulge", 0, () -> x.layer(0, 0, 2));
        x.weeks(0, 1);
        due("12 air 20 again", 180, () -> x.cell(0, 0, 0, 0));
        // A wall that was there two yards ago begins anew, too.
        due("3 two again", 0, () -> Check.tell(x, "wall 1;wall 2;"));
        due("6 the second has none", 0, () -> x.wall(1, 1));
        due("6 the second fell never", 0, () -> x.wall(1, 10));
    }

    private static MudWalls busyBehind(String text) {
        MudWalls x = Check.yard("wall 1;wall 1;");
        x.lift(0, 1);
        x.plan(0, 2);
        x.order(0, 1);
        x.brick(30, true);
        x.brick(60, false);
        x.house(5, 5, 5);
        x.guess(0, 0);
        x.image();
        x.weeks(0, 1);
        Check.tell(x, text);
        return x;
    }

    /** Promise 3: "BRICKS, HOUSES, GUESSES, the PLAN, the ORDER, the image are gone, COME and GONE are 0"; with a FAULT none is. */
    private void goneWithANewYard() {
        MudWalls x = busyBehind("");
        MudWalls y = busyBehind("x");
        due("23 cracked bricks", -1, () -> x.mix(0));
        due("23 cracked bricks stay", 30, () -> y.mix(0));
        due("23 whole bricks", -1, () -> x.mix(1));
        due("23 whole bricks stay", 60, () -> y.mix(1));
        due("22 bricks", 1, () -> x.brick(20, false));
        due("22 bricks stay", -1, () -> y.brick(20, false));
        due("24 houses", 1, () -> x.house(1, 1, 1));
        due("24 houses stay", 2, () -> y.house(1, 1, 1));
        due("28 guesses", -1, () -> x.credit(0));
        due("28 guesses stay", 0, () -> y.credit(0));
        due("27 none fits", 0, () -> x.stick(0, 0, 200, 50));
        due("27 one fits", 1, () -> y.stick(0, 0, 200, 50));
        due("16 the plan", NO_SUCH, () -> x.planned(0));
        due("16 the plan stays", 1, () -> y.planned(0));
        due("21 the order", NO_SUCH, () -> x.ordered(0));
        due("21 the order stays", 0, () -> y.ordered(0));
        due("31 the image", 0, () -> x.restore() ? 1 : 0);
        due("5 come", 0, () -> x.count(6));
        due("5 gone", 0, () -> x.count(7));
        due("5 come stays", 200, () -> y.count(6));
        due("5 gone stays", 20, () -> y.count(7));
        due("31 the image stays", 1, () -> y.restore() ? 1 : 0);
        due("5 gone is as the image", 0, () -> y.count(7));
    }

    /** Promise 3 names what a new YARD ends; STATUS, "how many calls were refused", is not among it. */
    private void statusOutlivesANewYard() {
        MudWalls x = new MudWalls();
        Check.tell(x, "x");
        Check.tell(x, "wall 1;");
        x.lift(0, 0);
        x.lift(0, 0);
        x.brick(-1, true);
        x.brick(-1, true);
        x.brick(-1, true);
        for (int k = 0; k < 4; k++) {
            x.house(-1, 0, 0);
        }
        Check.tell(x, "wall 2;");
        for (int k = 0; k < 4; k++) {
            int status = k;
            due("5 STATUS " + k, k + 1, () -> x.count(8 + status));
        }
    }

    /** Promise 4: "The place of the latest yard()'s FAULT; NONE without." */
    private void placeOfTheLatestFault() {
        MudWalls x = new MudWalls();
        due("4 new", -1, x::fault);
        Check.tell(x, "x");
        due("4 at 0", 0, x::fault);
        Check.tell(x, "wall 1;x");
        due("4 the later one", 7, x::fault);
        Check.feed(x, "wall 1;");
        due("4 fed, not told", 7, x::fault);
        due("3 refused", ILLEGAL, () -> x.yard(21));
        due("4 refused", 7, x::fault);
        x.image();
        due("3 good", 0, () -> x.yard(7));
        due("4 none", -1, x::fault);
        x.image();
        Check.tell(x, "  x");
        x.restore();
        due("4 no part of an image", 2, x::fault);
    }

    /** Promise 5: each of 0 to 11, "NoSuchElementException: another what." */
    private void counts() {
        MudWalls x = Check.yard("wall 1;wall 2;week 1 50;");
        x.lift(1, 1);
        x.weeks(1, 1);
        Check.feed(x, "abc");
        Check.feed(x, "abc");
        long[] want = {2, 1, 190, 30, 20, 40, 402, 62, 0, 0, 0, 0};
        // 1 on each cell of the top, none by 1 by 100 by 200; 101 dry by 50 by 150 and by 50 by 100, by 20,000: 37 and 25, 62.
        for (int k = 0; k < want.length; k++) {
            int what = k;
            due("5 count " + k, want[k], () -> x.count(what));
        }
        for (int k : new int[] {MIN, -8, -1, 12, 13, 20, MAX}) {
            due("5 another " + k, NO_SUCH, () -> x.count(k));
        }
    }

    /** "An object is used for at most 512 calls after it has been made": the 512th is answered as the first. */
    private void atMost512Calls() {
        MudWalls x = new MudWalls();
        x.feed(0x77616c6c, 0x20363b20, 0x20202020, 0x20202020, 0x20202020);
        x.yard(20);
        x.lift(0, 9);
        x.lift(0, 9);
        x.lift(0, 6);
        for (int call = 6; call <= 511; call++) {
            due("512 call " + call, call % 2 == 0 ? 23 : 24, call % 2 == 0 ? () -> x.down(0) : () -> x.lift(0, 1));
        }
        due("512 the last call", 23, () -> x.down(0));
    }
}
