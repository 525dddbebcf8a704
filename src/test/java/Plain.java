import java.util.ArrayList;
import java.util.Arrays;
import java.util.List;
import java.util.NoSuchElementException;

/** The document once more, word by word and without any short cut: what MudWalls is compared with. */
final class Plain {
    static final class Cell {
        int water = 200;
        boolean cracked;
        boolean hollow;
        int ahead;
        int change;

        Cell copy() {
            Cell c = new Cell();
            c.water = water;
            c.cracked = cracked;
            c.hollow = hollow;
            return c;
        }
    }

    static final class Layer {
        final List<Cell> cells = new ArrayList<>();
        int bulge;
    }

    static final class Wall {
        int depth, ground, shoes, outer = 100, inner = 100, past, fell, why;
        boolean hat, prop;
        final List<Layer> layers = new ArrayList<>();

        Wall copy() {
            Wall w = new Wall();
            w.depth = depth;
            w.ground = ground;
            w.shoes = shoes;
            w.outer = outer;
            w.inner = inner;
            w.past = past;
            w.fell = fell;
            w.why = why;
            w.hat = hat;
            w.prop = prop;
            for (Layer l : layers) {
                Layer m = new Layer();
                m.bulge = l.bulge;
                for (Cell c : l.cells) {
                    m.cells.add(c.copy());
                }
                w.layers.add(m);
            }
            return w;
        }

        int water() {
            int sum = 0;
            for (Layer l : layers) {
                for (Cell c : l.cells) {
                    sum += c.water;
                }
            }
            return sum;
        }
    }

    private final StringBuilder tape = new StringBuilder();
    private int fault = -1;
    private int clay = 30, sand = 50, straw = 5;
    private List<Wall> walls = new ArrayList<>();
    private List<int[]> weeks = new ArrayList<>();
    private long come, gone;
    private int[] status = new int[4];
    private List<Integer> plan = new ArrayList<>();
    private List<Integer> order = new ArrayList<>();
    private List<int[]> bricks = new ArrayList<>();
    private List<int[]> houses = new ArrayList<>();
    private Wall[] guesses = new Wall[4];
    private int[] credit = new int[4];
    private List<Wall> imageWalls;
    private long imageCome, imageGone;
    private int[] imageStatus;

    private static NoSuchElementException none() {
        return new NoSuchElementException();
    }

    private static void need(boolean told) {
        if (!told) {
            throw new IllegalArgumentException();
        }
    }

    int feed(int a, int b, int c, int d, int e) {
        if (tape.length() + 20 > 700) {
            return -1;
        }
        for (int n : new int[] {a, b, c, d, e}) {
            tape.append((char) (n >>> 24)).append((char) (n >>> 16 & 255)).append((char) (n >>> 8 & 255)).append((char) (n & 255));
        }
        return tape.length();
    }

    // ---- the text: all tokens first, then the grammar by hand over them

    private static final class Fault extends RuntimeException {
        private static final long serialVersionUID = 1L;
        final int kind;
        final int place;

        Fault(int kind, int place) {
            this.kind = kind;
            this.place = place;
        }
    }

    private List<String> tokens;
    private List<Integer> places;
    private int at;

    private void split(String text) {
        tokens = new ArrayList<>();
        places = new ArrayList<>();
        java.util.regex.Matcher m = java.util.regex.Pattern.compile("[a-z]+|[0-9]+|;|[ \n]+|[\\s\\S]").matcher(text);
        while (m.find()) {
            if (m.group().charAt(0) != ' ' && m.group().charAt(0) != '\n') {
                tokens.add(m.group());
                places.add(m.start());
            }
        }
        tokens.add("");
        places.add(text.length());
        at = 0;
    }

    private void fail(int kind) {
        throw new Fault(kind, places.get(at));
    }

    private int number(int least, int most) {
        String t = tokens.get(at);
        if (!t.matches("[0-9]+")) {
            fail(1);
        }
        if (t.length() > 4 || Integer.parseInt(t) < least || Integer.parseInt(t) > most) {
            fail(2);
        }
        at++;
        return Integer.parseInt(t);
    }

    private boolean word(String w) {
        if (tokens.get(at).equals(w)) {
            at++;
            return true;
        }
        return false;
    }

    int yard(int n) {
        need(n >= 0 && n <= tape.length());
        String text = tape.substring(0, n);
        tape.setLength(0);
        int[] earth = null;
        List<Wall> newWalls = new ArrayList<>();
        List<int[]> newWeeks = new ArrayList<>();
        split(text);
        try {
            while (!tokens.get(at).equals("")) {
                switch (tokens.get(at)) {
                    case "earth":
                        if (earth != null) {
                            fail(3);
                        }
                        at++;
                        earth = new int[] {number(0, 99), number(0, 99), number(0, 99)};
                        break;
                    case "wall":
                        if (newWalls.size() == 4) {
                            fail(2);
                        }
                        at++;
                        Wall w = new Wall();
                        w.depth = number(1, 6);
                        w.ground = word("ground") ? number(0, 20) : 0;
                        w.shoes = word("shoes") ? number(0, 9) : 0;
                        w.hat = word("hat");
                        w.outer = word("outer") ? number(0, 100) : 100;
                        w.inner = word("inner") ? number(0, 100) : 100;
                        newWalls.add(w);
                        break;
                    case "week":
                        if (newWeeks.size() == 30) {
                            fail(2);
                        }
                        at++;
                        newWeeks.add(new int[] {number(0, 99), number(0, 99), word("frost") ? 1 : 0});
                        break;
                    default:
                        fail(1);
                }
                if (!word(";")) {
                    fail(1);
                }
            }
        } catch (Fault f) {
            fault = f.place;
            status[0]++;
            return f.kind;
        }
        fault = -1;
        clay = earth == null ? 30 : earth[0];
        sand = earth == null ? 50 : earth[1];
        straw = earth == null ? 5 : earth[2];
        walls = newWalls;
        weeks = newWeeks;
        come = 0;
        gone = 0;
        plan.clear();
        order.clear();
        bricks.clear();
        houses.clear();
        guesses = new Wall[4];
        imageWalls = null;
        return 0;
    }

    int fault() {
        return fault;
    }

    // ---- earth, cells, layers

    private int full() {
        return 40 + 4 * clay + 6 * straw;
    }

    private int green() {
        return 10 + 2 * straw;
    }

    private int shrink() {
        return 3 * clay - sand - 2 * straw;
    }

    private int strength(Cell c) {
        if (c.hollow) {
            return 0;
        }
        int s = green() + (int) Math.floor(full() * Math.min(60, Math.max(0, 180 - c.water)) / 60.0);
        return c.cracked ? (int) Math.floor(s / 2.0) : s;
    }

    private static int load(Cell c) {
        return c.hollow ? 0 : 10 + (int) Math.floor(c.water / 50.0);
    }

    private int bears(Wall w, int l) {
        int sum = 0;
        for (Cell c : w.layers.get(l).cells) {
            sum += strength(c);
        }
        return sum + (w.prop ? 50 : 0);
    }

    private static int presses(Wall w, int l) {
        int sum = 0;
        for (int k = l + 1; k < w.layers.size(); k++) {
            for (Cell c : w.layers.get(k).cells) {
                sum += load(c);
            }
        }
        return sum;
    }

    private boolean sits(Wall w, int l) {
        return presses(w, l) > bears(w, l);
    }

    private boolean anySits(Wall w) {
        for (int l = 0; l < w.layers.size(); l++) {
            if (sits(w, l)) {
                return true;
            }
        }
        return false;
    }

    private static void raise(Wall w, int n) {
        for (int i = 0; i < n; i++) {
            Layer l = new Layer();
            for (int c = 0; c < w.depth; c++) {
                l.cells.add(new Cell());
            }
            w.layers.add(l);
        }
    }

    // ---- a week: how much came and went stands in weekCome, weekGone

    private long weekCome, weekGone;

    private void more(Cell c, int n) {
        int before = c.water;
        c.water = Math.min(400, c.water + n);
        weekCome += c.water - before;
    }

    private static void flow(Cell a, Cell b, int part) {
        int moved = Math.abs(a.water - b.water) / part;
        Cell wetter = a.water > b.water ? a : b;
        Cell other = a.water > b.water ? b : a;
        wetter.change -= moved;
        other.change += moved;
    }

    private boolean week(Wall w) {
        weekCome = 0;
        weekGone = 0;
        int[] told = weeks.isEmpty() ? new int[] {0, 20, 0} : weeks.get(w.past % weeks.size());
        int rain = told[0];
        int air = told[1];
        w.past++;
        int high = w.layers.size();
        for (Layer l : w.layers) {
            for (Cell c : l.cells) {
                c.ahead = c.water;
                c.change = 0;
            }
        }
        if (high > 0) {
            if (!w.hat) {
                for (Cell c : w.layers.get(high - 1).cells) {
                    more(c, rain);
                }
            }
            for (int l = 0; l < high; l++) {
                if (l < 3 - w.shoes) {
                    more(w.layers.get(l).cells.get(0), rain * w.outer / 200);
                }
            }
            for (Cell c : w.layers.get(0).cells) {
                more(c, w.ground * Math.max(0, 3 - w.shoes) / 3);
            }
        }
        for (int l = 0; l < high; l++) {
            for (int c = 0; c + 1 < w.depth; c++) {
                flow(w.layers.get(l).cells.get(c), w.layers.get(l).cells.get(c + 1), 4);
            }
        }
        for (int l = 0; l + 1 < high; l++) {
            for (int c = 0; c < w.depth; c++) {
                flow(w.layers.get(l).cells.get(c), w.layers.get(l + 1).cells.get(c), 8);
            }
        }
        for (int l = 0; l < high; l++) {
            for (int k = 0; k < w.depth; k++) {
                Cell c = w.layers.get(l).cells.get(k);
                c.water += c.change;
                int n = 0;
                if (k == 0) {
                    n += w.outer;
                }
                if (k == w.depth - 1) {
                    n += w.inner / 2;
                }
                if (l == high - 1) {
                    n += 50;
                }
                int lost = Math.min(c.water, (int) ((long) Math.max(0, c.water - 100) * air * n / 20000));
                c.water -= lost;
                weekGone += lost;
                if (told[2] == 1 && k == 0 && (c.ahead >= 180 || c.water >= 180)) {
                    c.cracked = true;
                }
                if (c.ahead >= 150 && c.water < 150 && shrink() > 60) {
                    c.cracked = true;
                }
            }
        }
        for (int l = 0; l < high; l++) {
            if (sits(w, l)) {
                w.layers.get(l).bulge++;
                if (presses(w, l) >= 2 * bears(w, l)) {
                    w.layers.get(l).bulge++;
                }
            }
        }
        for (int l = 0; l < high; l++) {
            if (w.layers.get(l).bulge >= 6) {
                fall(w, l);
                return true;
            }
        }
        return false;
    }

    private void fall(Wall w, int l) {
        boolean hollow = false;
        boolean paste = true;
        boolean cracked = false;
        for (Cell c : w.layers.get(l).cells) {
            hollow |= c.hollow;
            paste &= c.water >= 180;
            cracked |= c.cracked;
        }
        w.why = hollow ? 1 : paste ? 2 : cracked ? 3 : 4;
        w.fell++;
        int before = w.water();
        while (w.layers.size() > l) {
            w.layers.remove(w.layers.size() - 1);
        }
        weekGone += before - w.water();
    }

    // ---- what is asked and done

    private Wall wallAt(int wall) {
        if (wall < 0 || wall >= walls.size()) {
            throw none();
        }
        return walls.get(wall);
    }

    private Cell cellAt(int wall, int layer, int cell) {
        Wall w = wallAt(wall);
        if (layer < 0 || layer >= w.layers.size() || cell < 0 || cell >= w.depth) {
            throw none();
        }
        return w.layers.get(layer).cells.get(cell);
    }

    int count(int what) {
        switch (what) {
            case 0: return walls.size();
            case 1: return weeks.size();
            case 2: return full();
            case 3: return shrink();
            case 4: return green();
            case 5: return tape.length();
            case 6: return (int) come;
            case 7: return (int) gone;
            case 8: case 9: case 10: case 11: return status[what - 8];
            default: throw none();
        }
    }

    int wall(int wall, int what) {
        Wall w = wallAt(wall);
        if (what < 0 || what > 11) {
            throw none();
        }
        return new int[] {w.depth, w.layers.size(), w.ground, w.shoes, w.hat ? 1 : 0, w.outer, w.inner, w.prop ? 1 : 0,
            w.past, w.water(), w.fell, w.why}[what];
    }

    int cell(int wall, int layer, int cell, int what) {
        Cell c = cellAt(wall, layer, cell);
        if (what < 0 || what > 5) {
            throw none();
        }
        return new int[] {c.water, c.cracked ? 1 : 0, c.hollow ? 1 : 0, strength(c), load(c),
            c.water >= 180 ? 2 : c.water <= 120 ? 0 : 1}[what];
    }

    int layer(int wall, int layer, int what) {
        Wall w = wallAt(wall);
        if (layer < 0 || layer >= w.layers.size() || what < 0 || what > 3) {
            throw none();
        }
        return new int[] {bears(w, layer), presses(w, layer), w.layers.get(layer).bulge, sits(w, layer) ? 1 : 0}[what];
    }

    int lift(int wall, int layers) {
        Wall w = wallAt(wall);
        if (layers < 1 || layers > 9 || w.layers.size() + layers > 24) {
            status[1]++;
            return -1;
        }
        raise(w, layers);
        come += 200 * layers * w.depth;
        return w.layers.size();
    }

    int down(int wall) {
        Wall w = wallAt(wall);
        if (w.layers.isEmpty()) {
            return -1;
        }
        int before = w.water();
        w.layers.remove(w.layers.size() - 1);
        gone += before - w.water();
        return w.layers.size();
    }

    void hollow(int wall, int layer, int cell) {
        cellAt(wall, layer, cell).hollow = true;
    }

    int weeks(int wall, int n) {
        Wall w = wallAt(wall);
        need(n >= 0 && n <= 520);
        int before = w.fell;
        for (int i = 0; i < n; i++) {
            week(w);
            come += weekCome;
            gone += weekGone;
        }
        return w.fell - before;
    }

    private int highOf(Wall w) {
        for (int n = 9; n >= 1; n--) {
            if (w.layers.size() + n <= 24) {
                Wall t = w.copy();
                raise(t, n);
                if (!anySits(t)) {
                    return n;
                }
            }
        }
        return 0;
    }

    int high(int wall) {
        return highOf(wallAt(wall));
    }

    int when(int wall, int layers) {
        Wall w = wallAt(wall);
        need(layers >= 1 && layers <= 9);
        Wall t = w.copy();
        for (int n = 0; n <= 52; n++) {
            if (highOf(t) >= layers) {
                return n;
            }
            if (week(t)) {
                return -1;
            }
        }
        return -1;
    }

    private boolean follows(Wall w, int height, int[] row) {
        Wall t = w.copy();
        for (int lift : row) {
            if (t.layers.size() + lift > 24) {
                return false;
            }
            raise(t, lift);
            if (anySits(t)) {
                return false;
            }
            week(t);
            if (anySits(t)) {
                return false;
            }
        }
        return t.layers.size() >= height;
    }

    int plan(int wall, int height) {
        Wall w = wallAt(wall);
        need(height >= 1 && height <= 24);
        if (w.layers.size() >= height) {
            plan.clear();
            return 0;
        }
        for (int n = 1; n <= 5; n++) {
            for (int code = 0; code < 1 << 2 * n; code++) {
                int[] row = new int[n];
                for (int k = 0; k < n; k++) {
                    row[k] = code >> 2 * (n - 1 - k) & 3;
                }
                if (follows(w, height, row)) {
                    plan.clear();
                    for (int lift : row) {
                        plan.add(lift);
                    }
                    return n;
                }
            }
        }
        return -1;
    }

    int planned(int i) {
        if (i < 0 || i >= plan.size()) {
            throw none();
        }
        return plan.get(i);
    }

    int turned(int wall, int other, int n, int what) {
        Wall a = wallAt(wall);
        Wall b = wallAt(other);
        if (wall == other || what < 0 || what > 1) {
            throw none();
        }
        need(n >= 1 && n <= 8);
        int best = -1;
        int bits = 0;
        for (int code = 0; code < 1 << n; code++) {
            Wall[] t = {a.copy(), b.copy()};
            int built = 0;
            int row = 0;
            for (int k = 0; k < n; k++) {
                int side = code >> n - 1 - k & 1;
                row |= side << k;
                int lift = Math.min(3, highOf(t[side]));
                built += lift;
                raise(t[side], lift);
                week(t[0]);
                week(t[1]);
            }
            if (built > best) {
                best = built;
                bits = row;
            }
        }
        return what == 0 ? best : bits;
    }

    private int foot(Wall w, int n) {
        for (int k = 1; k <= n; k++) {
            week(w);
            if (!w.layers.isEmpty()) {
                for (Cell c : w.layers.get(0).cells) {
                    if (c.water >= 180) {
                        return k;
                    }
                }
            }
        }
        return -1;
    }

    int line(int wall, int n, int what) {
        Wall w = wallAt(wall);
        if (what < 0 || what > 2) {
            throw none();
        }
        need(n >= 1 && n <= 520);
        if (what == 2) {
            return foot(w.copy(), n);
        }
        int step = what == 0 ? 1 : 10;
        int most = what == 0 ? 9 : 100;
        for (int k = 0; k <= most; k += step) {
            Wall t = w.copy();
            if (what == 0) {
                t.shoes = k;
            } else {
                t.outer = k;
            }
            if (foot(t, n) == -1) {
                return k;
            }
        }
        return -1;
    }

    private static void doWork(Wall w, int work) {
        if (work == 0) {
            w.outer = 100;
        } else if (work == 1) {
            w.inner = 100;
        } else if (work == 2) {
            w.hat = true;
        } else if (work == 3) {
            w.shoes = Math.min(9, w.shoes + 3);
        } else if (work == 4) {
            w.prop = true;
        } else {
            w.ground = 0;
        }
    }

    void work(int wall, int work) {
        Wall w = wallAt(wall);
        if (work < 0 || work > 5) {
            throw none();
        }
        doWork(w, work);
    }

    private int orderBest;
    private List<Integer> orderRow;

    private void allOrders(Wall w, List<Integer> left, List<Integer> row) {
        if (left.isEmpty()) {
            Wall t = w.copy();
            for (int work : row) {
                doWork(t, work);
                if (week(t)) {
                    return;
                }
            }
            int sum = 0;
            for (Layer l : t.layers) {
                sum += l.bulge;
            }
            if (orderBest == -1 || sum < orderBest) {
                orderBest = sum;
                orderRow = new ArrayList<>(row);
            }
            return;
        }
        for (int k = 0; k < left.size(); k++) {
            List<Integer> rest = new ArrayList<>(left);
            List<Integer> longer = new ArrayList<>(row);
            longer.add(rest.remove(k));
            allOrders(w, rest, longer);
        }
    }

    int order(int wall, int works) {
        Wall w = wallAt(wall);
        need(works >= 0 && works <= 63);
        List<Integer> left = new ArrayList<>();
        for (int k = 0; k < 6; k++) {
            if ((works >> k & 1) == 1) {
                left.add(k);
            }
        }
        orderBest = -1;
        allOrders(w, left, new ArrayList<>());
        if (orderBest != -1) {
            order = orderRow;
        }
        return orderBest;
    }

    int ordered(int i) {
        if (i < 0 || i >= order.size()) {
            throw none();
        }
        return order.get(i);
    }

    // ---- bricks, houses, guesses, image

    private int greatest() {
        int g = -1;
        for (int[] b : bricks) {
            if (b[1] == 1) {
                g = Math.max(g, b[0]);
            }
        }
        return g;
    }

    private int least() {
        int l = 1000;
        for (int[] b : bricks) {
            if (b[1] == 0) {
                l = Math.min(l, b[0]);
            }
        }
        return l == 1000 ? -1 : l;
    }

    int brick(int share, boolean cracked) {
        boolean gainsays = cracked ? least() != -1 && share >= least() : greatest() != -1 && share <= greatest();
        if (bricks.size() >= 40 || share < 0 || share > 100 || gainsays) {
            status[2]++;
            return -1;
        }
        bricks.add(new int[] {share, cracked ? 1 : 0});
        return bricks.size();
    }

    int mix(int what) {
        int low = greatest() == -1 ? 0 : greatest();
        int high = least() == -1 ? 100 : least();
        int halved = 0;
        for (int apart = high - low; apart > 1; apart = (int) Math.ceil(apart / 2.0)) {
            halved++;
        }
        if (what < 0 || what > 3) {
            throw none();
        }
        return new int[] {greatest(), least(), (low + high) / 2, halved}[what];
    }

    int house(int chance, int people, int cost) {
        if (houses.size() >= 12 || chance < 0 || chance > 1000 || people < 0 || people > 99 || cost < 1 || cost > 999) {
            status[3]++;
            return -1;
        }
        houses.add(new int[] {chance * people, cost});
        return houses.size();
    }

    int first(int coin, int what) {
        if (what < 0 || what > 2) {
            throw none();
        }
        need(coin >= 0 && coin <= 9999);
        int[] best = {-1, 0, 0};
        for (int set = 0; set < 1 << houses.size(); set++) {
            int worth = 0;
            int cost = 0;
            for (int k = 0; k < houses.size(); k++) {
                if ((set >> k & 1) == 1) {
                    worth += houses.get(k)[0];
                    cost += houses.get(k)[1];
                }
            }
            if (cost <= coin && (worth > best[0] || worth == best[0] && cost < best[1])) {
                best = new int[] {worth, cost, set};
            }
        }
        return best[what];
    }

    void guess(int guess, int wall) {
        Wall w = wallAt(wall);
        if (guess < 0 || guess > 3) {
            throw none();
        }
        guesses[guess] = w.copy();
        credit[guess] = 0;
    }

    private static boolean has(Wall g, int layer, int cell) {
        return g != null && layer < g.layers.size() && cell < g.depth;
    }

    int stick(int layer, int cell, int water, int slip) {
        need(layer >= 0 && layer <= 23 && cell >= 0 && cell <= 5 && water >= 0 && water <= 400 && slip >= 0 && slip <= 50);
        int fit = 0;
        for (int g = 0; g < 4; g++) {
            if (has(guesses[g], layer, cell) && Math.abs(guesses[g].layers.get(layer).cells.get(cell).water - water) <= slip) {
                credit[g]++;
                fit++;
            }
        }
        return fit;
    }

    int credit(int guess) {
        if (guess < 0 || guess > 3) {
            throw none();
        }
        return guesses[guess] == null ? -1 : credit[guess];
    }

    int where() {
        int best = -1;
        int farthest = -1;
        for (int layer = 0; layer < 24; layer++) {
            for (int cell = 0; cell < 6; cell++) {
                for (int g = 0; g < 4; g++) {
                    for (int h = g + 1; h < 4; h++) {
                        if (has(guesses[g], layer, cell) && has(guesses[h], layer, cell)) {
                            int apart = Math.abs(guesses[g].layers.get(layer).cells.get(cell).water
                                - guesses[h].layers.get(layer).cells.get(cell).water);
                            if (apart > farthest) {
                                farthest = apart;
                                best = 6 * layer + cell;
                            }
                        }
                    }
                }
            }
        }
        return best;
    }

    private static List<Wall> copies(List<Wall> from) {
        List<Wall> to = new ArrayList<>();
        for (Wall w : from) {
            to.add(w.copy());
        }
        return to;
    }

    void image() {
        imageWalls = copies(walls);
        imageCome = come;
        imageGone = gone;
        imageStatus = Arrays.copyOf(status, 4);
    }

    boolean restore() {
        if (imageWalls == null) {
            return false;
        }
        walls = copies(imageWalls);
        come = imageCome;
        gone = imageGone;
        status = Arrays.copyOf(imageStatus, 4);
        return true;
    }
}
