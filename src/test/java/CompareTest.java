import java.util.Random;

/** Runs of up to 512 calls, drawn from a fixed seed, must be answered as Plain answers them, with some of the state after each. */
public final class CompareTest {
    private static final int RUNS = 1000;
    private static final int CALLS = 50;
    private static final int MOST_CALLS = 512;

    private final Check check = new Check();
    private final Random draw;
    private MudWalls mud;
    private Plain plain;
    private int asked;

    private CompareTest(long seed) {
        draw = new Random(seed);
    }

    public static void main(String[] args) {
        CompareTest test = new CompareTest(20261118L);
        for (int run = 0; run < RUNS && test.check.wrong() == 0; run++) {
            test.oneRun(run);
        }
        test.check.end();
    }

    private int below(int n) {
        return draw.nextInt(n);
    }

    /** Mostly within least to most, now and then just outside of it. */
    private int about(int least, int most) {
        return below(12) == 0 ? (below(2) == 0 ? least - 1 : most + 1) : least + below(most - least + 1);
    }

    /** What an object answers behind its 512th call is free: it is asked no more then. */
    private void ask(String what, Check.Call ofPlain, Check.Call ofMud) {
        if (asked < MOST_CALLS) {
            asked++;
            check.same(what, Check.of(ofPlain), Check.of(ofMud));
        }
    }

    private void askOf(String what, Runnable ofPlain, Runnable ofMud) {
        ask(what, () -> Check.of(ofPlain), () -> Check.of(ofMud));
    }

    private void oneRun(int run) {
        mud = new MudWalls();
        plain = new Plain();
        asked = 0;
        String text = goodText();
        tell(text);
        for (int call = 0; call < CALLS && check.wrong() == 0; call++) {
            String where = "run " + run + " call " + call + " of " + text;
            oneCall(where);
            compareSome(where, 4);
        }
        compareState("the end of run " + run + " of " + text);
    }

    private void tell(String text) {
        int[] n = Check.numbers(text);
        for (int i = 0; i < n.length; i += 5) {
            int k = i;
            ask("feed", () -> plain.feed(n[k], n[k + 1], n[k + 2], n[k + 3], n[k + 4]),
                () -> mud.feed(n[k], n[k + 1], n[k + 2], n[k + 3], n[k + 4]));
        }
        ask("yard of " + text, () -> plain.yard(text.length()), () -> mud.yard(text.length()));
        ask("fault of " + text, () -> plain.fault(), () -> mud.fault());
        compareSome("behind " + text, 8);
    }

    private String goodText() {
        StringBuilder b = new StringBuilder();
        if (below(5) > 0) {
            boolean fat = below(3) == 0;
            b.append("earth ").append(fat ? 60 + below(40) : below(60)).append(' ').append(below(fat ? 40 : 100)).append(' ')
                .append(below(3) == 0 ? below(30) : below(6)).append(';');
        }
        int walls = 2 + below(3);
        for (int i = 0; i < walls; i++) {
            b.append("wall ").append(1 + below(below(2) == 0 ? 2 : 6));
            if (below(2) == 0) {
                b.append(" ground ").append(below(21));
            }
            if (below(2) == 0) {
                b.append(" shoes ").append(below(5));
            }
            if (below(2) == 0) {
                b.append(" hat");
            }
            if (below(2) == 0) {
                b.append(" outer ").append(below(101));
            }
            if (below(2) == 0) {
                b.append(" inner ").append(below(101));
            }
            b.append(below(2) == 0 ? ";" : " ;\n");
        }
        int weeks = below(3) == 0 ? 0 : below(6);
        boolean dry = below(2) == 0;
        for (int i = 0; i < weeks; i++) {
            b.append("week ").append(dry ? below(10) : below(100)).append(' ').append(dry ? 30 + below(70) : below(100))
                .append(below(4) == 0 ? " frost" : "").append(';');
        }
        return b.length() > 690 ? "wall 1;wall 2;" : b.toString();
    }

    /** A good text with one byte or piece of it spoilt. */
    private String spoilt() {
        String text = goodText();
        String[] pieces = {"", " ", ";", "x", "9", "12345", "earth 1 2 3;", "wall 1;", "week 1 2;", "hat", "\t", "Z", "0", "100", "frost", "\u00e9"};
        int at = below(text.length() + 1);
        int cut = Math.min(text.length(), at + below(4));
        String bad = text.substring(0, at) + pieces[below(pieces.length)] + text.substring(cut);
        return bad.length() > 690 ? bad.substring(0, 690) : bad;
    }

    private void oneCall(String where) {
        int w = below(15) == 0 ? about(0, 3) : below(2);
        int v = below(5) == 0 ? about(0, 3) : 1 - w;
        switch (below(26)) {
            case 0: case 1: case 2: case 3: {
                int n = below(3) == 0 ? about(1, 9) : 1 + below(3);
                ask(where + " lift " + w + " " + n, () -> plain.lift(w, n), () -> mud.lift(w, n));
                break;
            }
            case 4: case 5: case 6: case 7: {
                int n = below(10) == 0 ? about(0, 520) : below(6);
                ask(where + " weeks " + w + " " + n, () -> plain.weeks(w, n), () -> mud.weeks(w, n));
                break;
            }
            case 8:
                ask(where + " down " + w, () -> plain.down(w), () -> mud.down(w));
                break;
            case 9: {
                int l = about(0, 3);
                int c = below(2);
                askOf(where + " hollow", () -> plain.hollow(w, l, c), () -> mud.hollow(w, l, c));
                break;
            }
            case 10: {
                int n = about(1, 9);
                ask(where + " when " + w + " " + n, () -> plain.when(w, n), () -> mud.when(w, n));
                break;
            }
            case 11: case 12: {
                int n = below(4) == 0 ? about(1, 24) : 1 + below(9);
                ask(where + " plan " + w + " " + n, () -> plain.plan(w, n), () -> mud.plan(w, n));
                break;
            }
            case 13: case 14: {
                int n = below(3) == 0 ? about(1, 8) : about(1, 4);
                int what = about(0, 1);
                ask(where + " turned " + w + " " + v + " " + n + " " + what, () -> plain.turned(w, v, n, what), () -> mud.turned(w, v, n, what));
                break;
            }
            case 15: case 16: {
                int n = below(6) == 0 ? about(1, 520) : 1 + below(30);
                int what = about(0, 2);
                ask(where + " line " + w + " " + n + " " + what, () -> plain.line(w, n, what), () -> mud.line(w, n, what));
                break;
            }
            case 17: {
                int n = about(0, 5);
                askOf(where + " work", () -> plain.work(w, n), () -> mud.work(w, n));
                break;
            }
            case 18: case 19: {
                int n = about(0, 63);
                ask(where + " order " + w + " " + n, () -> plain.order(w, n), () -> mud.order(w, n));
                break;
            }
            case 20:
                askOf(where + " image", plain::image, mud::image);
                break;
            case 21:
                ask(where + " restore", () -> plain.restore() ? 1 : 0, () -> mud.restore() ? 1 : 0);
                break;
            case 22:
                if (below(4) == 0) {
                    tell(below(3) == 0 ? goodText() : spoilt());
                }
                break;
            default:
                sideCall(where, w);
        }
    }

    private void sideCall(String where, int w) {
        int g = about(0, 3);
        switch (below(4)) {
            case 0: {
                int share = about(0, 100);
                boolean cracked = share < 40 + below(20);
                ask(where + " brick " + share + " " + cracked, () -> plain.brick(share, cracked), () -> mud.brick(share, cracked));
                break;
            }
            case 1: {
                int chance = about(0, 1000);
                int people = about(0, 99);
                int cost = about(1, below(2) == 0 ? 9 : 999);
                ask(where + " house", () -> plain.house(chance, people, cost), () -> mud.house(chance, people, cost));
                break;
            }
            case 2:
                askOf(where + " guess", () -> plain.guess(g, w), () -> mud.guess(g, w));
                break;
            default: {
                int l = below(3) == 0 ? about(0, 23) : below(3);
                int c = below(3) == 0 ? about(0, 5) : below(2);
                int water = below(3) == 0 ? about(0, 400) : 120 + below(100);
                int slip = about(0, 50);
                ask(where + " stick", () -> plain.stick(l, c, water, slip), () -> mud.stick(l, c, water, slip));
            }
        }
    }

    /** So many things that can be seen, drawn. */
    private void compareSome(String where, int many) {
        for (int i = 0; i < many; i++) {
            int w = below(8) == 0 ? about(0, 3) : below(2);
            boolean there = w >= 0 && w < plain.count(0);
            int layer = about(0, Math.max(0, there ? plain.wall(w, 1) - 1 : 0));
            int cell = about(0, there ? plain.wall(w, 0) - 1 : 0);
            int k = about(0, 11);
            switch (below(10)) {
                case 0: case 1:
                    ask(where + " count " + k, () -> plain.count(k), () -> mud.count(k));
                    break;
                case 2: case 3:
                    ask(where + " wall " + w + " " + k, () -> plain.wall(w, k), () -> mud.wall(w, k));
                    break;
                case 4: case 5:
                    compareLayer(where, w, layer, about(0, 3));
                    break;
                case 6: case 7:
                    compareCell(where, w, layer, cell, about(0, 5));
                    break;
                case 8:
                    ask(where + " high " + w, () -> plain.high(w), () -> mud.high(w));
                    break;
                default:
                    compareKept(where, about(0, 5));
            }
        }
    }

    private void compareLayer(String where, int w, int layer, int k) {
        ask(where + " layer " + w + " " + layer + " " + k, () -> plain.layer(w, layer, k), () -> mud.layer(w, layer, k));
    }

    private void compareCell(String where, int w, int layer, int cell, int k) {
        ask(where + " cell " + w + " " + layer + " " + cell + " " + k, () -> plain.cell(w, layer, cell, k), () -> mud.cell(w, layer, cell, k));
    }

    private void compareKept(String where, int k) {
        int coin = about(0, below(2) == 0 ? 9999 : 500);
        ask(where + " planned " + k, () -> plain.planned(k), () -> mud.planned(k));
        ask(where + " ordered " + k, () -> plain.ordered(k), () -> mud.ordered(k));
        ask(where + " mix " + k, () -> plain.mix(k), () -> mud.mix(k));
        ask(where + " credit " + k, () -> plain.credit(k), () -> mud.credit(k));
        ask(where + " first " + coin + " " + k, () -> plain.first(coin, k), () -> mud.first(coin, k));
        ask(where + " where", plain::where, mud::where);
        ask(where + " fault", plain::fault, mud::fault);
    }

    /** As much of it as an object's calls allow: what adds up first, then wall by wall. */
    private void compareState(String where) {
        for (int i = 0; i <= 11; i++) {
            int k = i;
            ask(where + " count " + k, () -> plain.count(k), () -> mud.count(k));
        }
        int walls = plain.count(0);
        long inCells = 0;
        for (int w = 0; w < walls; w++) {
            inCells += plain.wall(w, 9);
        }
        check.same(where + " water adds up", inCells, plain.count(6) - plain.count(7));
        for (int i = 0; i < walls; i++) {
            int w = i;
            for (int what = 0; what <= 11; what++) {
                int k = what;
                ask(where + " wall " + w + " " + k, () -> plain.wall(w, k), () -> mud.wall(w, k));
            }
        }
        for (int k = 0; k <= 6; k++) {
            compareKept(where, k);
        }
        for (int w = 0; w < walls; w++) {
            for (int layer = 0; layer < plain.wall(w, 1); layer++) {
                compareLayer(where, w, layer, 2);
                for (int cell = 0; cell < plain.wall(w, 0); cell++) {
                    compareCell(where, w, layer, cell, below(6));
                }
            }
        }
    }
}
