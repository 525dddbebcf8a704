import java.util.ArrayList;
import java.util.List;

/** All that can be seen of an object, a row a line, so that two objects can be laid side by side. */
final class Look {
    private final MudWalls x;
    private final boolean withStatus;
    private final List<String> rows = new ArrayList<>();

    private Look(MudWalls x, boolean withStatus) {
        this.x = x;
        this.withStatus = withStatus;
    }

    /** What it answers now; nothing is changed by it. */
    static List<String> now(MudWalls x) {
        Look look = new Look(x, true);
        look.all("now");
        return look.rows;
    }

    /** Now, behind a week of each wall, as its image and by its tape: what lies hidden shows too, but the object is spent. */
    static List<String> through(MudWalls x, boolean withStatus) {
        Look look = new Look(x, withStatus);
        look.all("now");
        look.row("trials and one", () -> x.brick(100, false));
        look.row("houses and one", () -> x.house(0, 0, 1));
        look.row("fitting", () -> x.stick(0, 0, 200, 50));
        for (int w = 0; w < x.count(0); w++) {
            int wall = w;
            look.row("a week of " + w, () -> x.weeks(wall, 1));
            look.wall("a week on", w);
        }
        look.row("image", () -> x.restore() ? 1 : 0);
        look.all("as the image");
        look.row("tape", () -> x.yard(x.count(5)));
        look.all("by the tape");
        return look.rows;
    }

    private void row(String what, Check.Call call) {
        rows.add(what + ": " + Check.name(Check.of(call)));
    }

    private void all(String when) {
        row(when + " fault", x::fault);
        for (int what = 0; what < (withStatus ? 12 : 8); what++) {
            int k = what;
            row(when + " count " + k, () -> x.count(k));
        }
        for (int w = 0; w < x.count(0); w++) {
            wall(when, w);
        }
        for (int i = 0; i < 6 && Check.of(kept(true, i)) != Check.NO_SUCH; i++) {
            row(when + " planned " + i, kept(true, i));
        }
        for (int i = 0; i < 7 && Check.of(kept(false, i)) != Check.NO_SUCH; i++) {
            row(when + " ordered " + i, kept(false, i));
        }
        for (int k = 0; k < 4; k++) {
            int what = k;
            row(when + " mix " + k, () -> x.mix(what));
            row(when + " credit " + k, () -> x.credit(what));
        }
        row(when + " first", () -> x.first(9999, 0));
        row(when + " where", x::where);
    }

    private Check.Call kept(boolean plan, int i) {
        return () -> plan ? x.planned(i) : x.ordered(i);
    }

    private void wall(String when, int w) {
        for (int what = 0; what < 12; what++) {
            int k = what;
            row(when + " wall " + w + " " + k, () -> x.wall(w, k));
        }
        int layers = x.wall(w, 1);
        for (int l = 0; l < layers; l++) {
            // Of a tall wall its ends will do, beside its WATER in all: an object has but 512 calls.
            if (l >= 2 && l < layers - 2) {
                continue;
            }
            int layer = l;
            row(when + " bulge " + w + " " + l, () -> x.layer(w, layer, 2));
            for (int c = 0; c < x.wall(w, 0); c++) {
                int cell = c;
                for (int what = 0; what < 3; what++) {
                    int k = what;
                    row(when + " cell " + w + " " + l + " " + c + " " + k, () -> x.cell(w, layer, cell, k));
                }
            }
        }
    }
}
