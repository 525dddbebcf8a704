import java.util.NoSuchElementException;

/** Walls of mud by the promises of DOC.md: a yard is read from a tape of bytes, its walls are built, weathered and asked. */
public final class MudWalls {
    public static final int NONE = -1;

    private static final int MOST_BYTES = 700;
    private static final int MOST_WALLS = 4;
    private static final int MOST_WEEKS = 30;
    private static final int MOST_LAYERS = 24;
    private static final int MOST_DEPTH = 6;
    private static final int PLACES = MOST_LAYERS * MOST_DEPTH;
    private static final int MOST_RAISED = 9;
    private static final int MOST_WATER = 400;
    private static final int FRESH_WATER = 200;
    private static final int PASTE_FROM = 180;
    private static final int HARD_TO = 120;
    private static final int FALLS_FROM = 6;
    private static final int WORKS = 6;
    private static final int CAREFUL_LIFT = 3;
    private static final int LONGEST_PLAN = 5;
    private static final int MOST_TURNS = 8;
    private static final int LONGEST_WAIT = 520;

    private static final int TEXTS_REFUSED = 0;
    private static final int LIFTS_REFUSED = 1;
    private static final int BRICKS_REFUSED = 2;
    private static final int HOUSES_REFUSED = 3;

    private final byte[] tape = new byte[MOST_BYTES];
    private int tapeLength;
    private int faultPlace = NONE;
    private final int[] status = new int[4];
    private final int[] imageStatus = new int[4];
    private boolean imageKept;
    private final Reader reader;
    private final Yard draft;
    private final Yard ground;
    private final Wall[] walls;
    private final Wall[] imageWalls;
    private final Weather weather;
    private final Forecast forecast;
    private final Planner planner;
    private final Turner turner;
    private final Orderer orderer;
    private final Bricks bricks;
    private final Houses houses;
    private final Guesses guesses;

    public MudWalls() {
        reader = new Reader();
        draft = new Yard();
        ground = new Yard();
        walls = manyWalls(MOST_WALLS, ground);
        imageWalls = manyWalls(MOST_WALLS, ground);
        weather = new Weather(ground);
        // The searches never run at once, so they share their trial walls.
        Wall[] bench = manyWalls(2 * MOST_TURNS, ground);
        forecast = new Forecast(ground, weather, bench);
        planner = new Planner(weather, bench);
        turner = new Turner(weather, bench);
        orderer = new Orderer(weather, bench);
        bricks = new Bricks();
        houses = new Houses();
        guesses = new Guesses();
    }

    private static Wall[] manyWalls(int many, Yard yard) {
        Wall[] row = new Wall[Math.max(0, many)];
        for (int i = 0; i < row.length; i++) {
            row[i] = new Wall(yard);
        }
        return row;
    }

    public int feed(int a, int b, int c, int d, int e) {
        if (tapeLength + 20 > MOST_BYTES) {
            return NONE;
        }
        putNumber(a);
        putNumber(b);
        putNumber(c);
        putNumber(d);
        putNumber(e);
        return tapeLength;
    }

    private void putNumber(int number) {
        for (int shift = 24; shift >= 0 && tapeLength < MOST_BYTES; shift -= 8) {
            tape[tapeLength] = (byte) (number >> shift);
            tapeLength++;
        }
    }

    public int yard(int n) throws IllegalArgumentException {
        if (n < 0 || n > tapeLength) {
            throw new IllegalArgumentException("the tape has not so many bytes");
        }
        int found = reader.read(tape, n, draft);
        tapeLength = 0;
        faultPlace = reader.faultPlace;
        if (found != 0) {
            status[TEXTS_REFUSED]++;
            return found;
        }
        beginAnew();
        return 0;
    }

    private void beginAnew() {
        ground.become(draft);
        for (int i = 0; i < walls.length; i++) {
            walls[i].begin(i);
        }
        imageKept = false;
        planner.forget();
        orderer.forget();
        bricks.forget();
        houses.forget();
        guesses.forget();
    }

    public int fault() {
        return faultPlace;
    }

    public int count(int what) throws NoSuchElementException {
        switch (what) {
            case 0: return ground.wallCount;
            case 1: return ground.weekCount;
            case 2: return ground.full;
            case 3: return ground.shrink;
            case 4: return ground.green;
            case 5: return tapeLength;
            case 6: return waterCome();
            case 7: return waterGone();
            default: break;
        }
        if (what < 8 || what - 8 >= status.length) {
            throw new NoSuchElementException("no such count");
        }
        return status[what - 8];
    }

    private int waterCome() {
        int sum = 0;
        for (int i = 0; i < walls.length; i++) {
            sum += walls[i].come;
        }
        return sum;
    }

    private int waterGone() {
        int sum = 0;
        for (int i = 0; i < walls.length; i++) {
            sum += walls[i].gone;
        }
        return sum;
    }

    private Wall wallAt(int wall) {
        if (wall < 0 || wall >= ground.wallCount || wall >= walls.length) {
            throw new NoSuchElementException("no such wall");
        }
        return walls[wall];
    }

    private Wall wallWithLayer(int wall, int layer) {
        Wall found = wallAt(wall);
        if (layer < 0 || layer >= found.layers) {
            throw new NoSuchElementException("no such layer");
        }
        return found;
    }

    private Wall wallWithCell(int wall, int layer, int cell) {
        Wall found = wallWithLayer(wall, layer);
        if (cell < 0 || cell >= found.depth) {
            throw new NoSuchElementException("no such cell");
        }
        return found;
    }

    public int wall(int wall, int what) throws NoSuchElementException {
        Wall found = wallAt(wall);
        switch (what) {
            case 0: return found.depth;
            case 1: return found.layers;
            case 2: return found.ground;
            case 3: return found.shoes;
            case 4: return found.hat ? 1 : 0;
            case 5: return found.outer;
            case 6: return found.inner;
            case 7: return found.prop ? 1 : 0;
            case 8: return found.past;
            case 9: return found.waterFrom(0);
            case 10: return found.fell;
            case 11: return found.why;
            default: throw new NoSuchElementException("no such trait of a wall");
        }
    }

    public int cell(int wall, int layer, int cell, int what) throws NoSuchElementException {
        Wall found = wallWithCell(wall, layer, cell);
        int place = layer * MOST_DEPTH + cell;
        switch (what) {
            case 0: return found.water[place];
            case 1: return found.isCracked(place) ? 1 : 0;
            case 2: return found.isHollow(place) ? 1 : 0;
            case 3: return found.strength(place);
            case 4: return found.load(place);
            case 5: return found.stiffness(place);
            default: throw new NoSuchElementException("no such trait of a cell");
        }
    }

    public int layer(int wall, int layer, int what) throws NoSuchElementException {
        Wall found = wallWithLayer(wall, layer);
        switch (what) {
            case 0: return found.bears(layer);
            case 1: return found.presses(layer);
            case 2: return found.bulge[layer];
            case 3: return found.presses(layer) > found.bears(layer) ? 1 : 0;
            default: throw new NoSuchElementException("no such trait of a layer");
        }
    }

    public int lift(int wall, int layers) throws NoSuchElementException {
        Wall found = wallAt(wall);
        if (layers < 1 || layers > MOST_RAISED || found.layers + layers > MOST_LAYERS) {
            status[LIFTS_REFUSED]++;
            return NONE;
        }
        found.raise(layers);
        return found.layers;
    }

    public int down(int wall) throws NoSuchElementException {
        Wall found = wallAt(wall);
        if (found.layers == 0) {
            return NONE;
        }
        found.dropFrom(found.layers - 1);
        return found.layers;
    }

    public void hollow(int wall, int layer, int cell) throws NoSuchElementException {
        wallWithCell(wall, layer, cell).makeHollow(layer * MOST_DEPTH + cell);
    }

    public int weeks(int wall, int weeks) throws NoSuchElementException, IllegalArgumentException {
        Wall found = wallAt(wall);
        checkRange(weeks, 0, LONGEST_WAIT);
        int before = found.fell;
        for (int week = 0; week < weeks; week++) {
            weather.pass(found);
        }
        return found.fell - before;
    }

    private static void checkRange(int number, int least, int most) {
        if (number < least || number > most) {
            throw new IllegalArgumentException("a number not as told");
        }
    }

    private static void checkWhat(int what, int most) {
        if (what < 0 || what > most) {
            throw new NoSuchElementException("no such thing is told");
        }
    }

    public int high(int wall) throws NoSuchElementException {
        return wallAt(wall).roomAbove();
    }

    public int when(int wall, int layers) throws NoSuchElementException, IllegalArgumentException {
        Wall found = wallAt(wall);
        checkRange(layers, 1, MOST_RAISED);
        return forecast.weeksUntil(found, layers);
    }

    public int plan(int wall, int height) throws NoSuchElementException, IllegalArgumentException {
        Wall found = wallAt(wall);
        checkRange(height, 1, MOST_LAYERS);
        return planner.weeksTo(found, height);
    }

    public int planned(int i) throws NoSuchElementException {
        if (i < 0 || i >= planner.keptLength || i >= planner.kept.length) {
            throw new NoSuchElementException("no such week of a plan");
        }
        return planner.kept[i];
    }

    public int turned(int wall, int other, int weeks, int what) throws NoSuchElementException, IllegalArgumentException {
        Wall one = wallAt(wall);
        Wall two = wallAt(other);
        checkWhat(what, 1);
        if (wall == other) {
            throw new NoSuchElementException("both are one wall");
        }
        checkRange(weeks, 1, MOST_TURNS);
        turner.search(one, two, weeks);
        return what == 0 ? turner.best : turner.bestRow;
    }

    public int line(int wall, int weeks, int what) throws NoSuchElementException, IllegalArgumentException {
        Wall found = wallAt(wall);
        checkWhat(what, 2);
        checkRange(weeks, 1, LONGEST_WAIT);
        switch (what) {
            case 0: return forecast.fewestShoes(found, weeks);
            case 1: return forecast.leastOuter(found, weeks);
            default: return forecast.footPaste(found, weeks);
        }
    }

    public void work(int wall, int work) throws NoSuchElementException {
        Wall found = wallAt(wall);
        checkWhat(work, WORKS - 1);
        found.improve(work);
    }

    public int order(int wall, int works) throws NoSuchElementException, IllegalArgumentException {
        Wall found = wallAt(wall);
        checkRange(works, 0, (1 << WORKS) - 1);
        return orderer.leastBulges(found, works);
    }

    public int ordered(int i) throws NoSuchElementException {
        if (i < 0 || i >= orderer.keptLength || i >= orderer.kept.length) {
            throw new NoSuchElementException("no such work of an order");
        }
        return orderer.kept[i];
    }

    public int brick(int sand, boolean cracked) {
        if (!bricks.add(sand, cracked)) {
            status[BRICKS_REFUSED]++;
            return NONE;
        }
        return bricks.trials;
    }

    public int mix(int what) throws NoSuchElementException {
        switch (what) {
            case 0: return bricks.greatestCracked;
            case 1: return bricks.leastWhole;
            case 2: return bricks.nextShare();
            case 3: return bricks.fewestTrials();
            default: throw new NoSuchElementException("no such thing of a mix");
        }
    }

    public int house(int chance, int people, int cost) {
        if (!houses.add(chance, people, cost)) {
            status[HOUSES_REFUSED]++;
            return NONE;
        }
        return houses.known;
    }

    public int first(int coin, int what) throws NoSuchElementException, IllegalArgumentException {
        checkWhat(what, 2);
        checkRange(coin, 0, 9999);
        houses.choose(coin);
        switch (what) {
            case 0: return houses.bestWorth;
            case 1: return houses.bestCost;
            default: return houses.bestSet;
        }
    }

    public void guess(int guess, int wall) throws NoSuchElementException {
        Wall found = wallAt(wall);
        checkWhat(guess, Guesses.MOST - 1);
        guesses.keep(guess, found);
    }

    public int stick(int layer, int cell, int water, int slip) throws IllegalArgumentException {
        checkRange(layer, 0, MOST_LAYERS - 1);
        checkRange(cell, 0, MOST_DEPTH - 1);
        checkRange(water, 0, MOST_WATER);
        checkRange(slip, 0, 50);
        return guesses.reading(layer * MOST_DEPTH + cell, water, slip);
    }

    public int credit(int guess) throws NoSuchElementException {
        checkWhat(guess, Guesses.MOST - 1);
        return guesses.fits[guess];
    }

    public int where() {
        return guesses.farthestApart();
    }

    public void image() {
        imageKept = true;
        copyWalls(walls, imageWalls);
        System.arraycopy(status, 0, imageStatus, 0, status.length);
    }

    public boolean restore() {
        if (!imageKept) {
            return false;
        }
        copyWalls(imageWalls, walls);
        System.arraycopy(imageStatus, 0, status, 0, status.length);
        return true;
    }

    private static void copyWalls(Wall[] from, Wall[] to) {
        for (int i = 0; i < from.length && i < to.length; i++) {
            to[i].become(from[i]);
        }
    }

    /** What a text told: the earth, the weeks and each wall's traits at the beginning. */
    private static final class Yard {
        static final int TRAITS = 6;
        static final int WEEK_NUMBERS = 3;

        final int[] earth = new int[3];
        final int[] traits = new int[MOST_WALLS * TRAITS];
        final int[] told = new int[MOST_WEEKS * WEEK_NUMBERS];
        boolean earthTold;
        int wallCount;
        int weekCount;
        int full;
        int shrink;
        int green;

        Yard() {
            clear();
        }

        void clear() {
            setEarth(30, 50, 5);
            earthTold = false;
            wallCount = 0;
            weekCount = 0;
        }

        void setEarth(int clay, int sand, int straw) {
            earth[0] = clay;
            earth[1] = sand;
            earth[2] = straw;
            full = 40 + 4 * clay + 6 * straw;
            shrink = 3 * clay - sand - 2 * straw;
            green = 10 + 2 * straw;
        }

        void become(Yard other) {
            setEarth(other.earth[0], other.earth[1], other.earth[2]);
            earthTold = other.earthTold;
            wallCount = other.wallCount;
            weekCount = other.weekCount;
            System.arraycopy(other.traits, 0, traits, 0, traits.length);
            System.arraycopy(other.told, 0, told, 0, told.length);
        }
    }

    /** Reads a text by the document's grammar into a draft, up to the text's first fault. */
    private static final class Reader {
        private static final int END = 0;
        private static final int WORD = 1;
        private static final int NUMBER = 2;
        private static final int SEMICOLON = 3;
        private static final int NO_TOKEN = 4;
        private static final int CANNOT_STAND = 1;
        private static final int TOO_MUCH = 2;
        private static final int SECOND_EARTH = 3;

        private byte[] text = new byte[0];
        private int length;
        private int kind;
        private int start;
        private int end;
        private int faultKind;
        int faultPlace = NONE;

        int read(byte[] bytes, int n, Yard into) {
            text = bytes;
            length = Math.max(0, Math.min(n, bytes.length));
            end = 0;
            faultKind = 0;
            faultPlace = NONE;
            into.clear();
            advance();
            for (int lines = 0; lines <= MOST_BYTES && faultKind == 0 && kind != END; lines++) {
                readLine(into);
            }
            return faultKind;
        }

        private void readLine(Yard into) {
            if (atWord("earth")) {
                readEarth(into);
            } else if (atWord("wall")) {
                readWall(into);
            } else if (atWord("week")) {
                readWeek(into);
            } else {
                refuse(CANNOT_STAND);
            }
            if (faultKind == 0 && kind == SEMICOLON) {
                advance();
            } else {
                refuse(CANNOT_STAND);
            }
        }

        private void readEarth(Yard into) {
            if (into.earthTold) {
                refuse(SECOND_EARTH);
                return;
            }
            into.earthTold = true;
            advance();
            int clay = takeNumber(0, 99);
            int sand = takeNumber(0, 99);
            int straw = takeNumber(0, 99);
            into.setEarth(clay, sand, straw);
        }

        private void readWall(Yard into) {
            if (into.wallCount >= MOST_WALLS) {
                refuse(TOO_MUCH);
                return;
            }
            int row = into.wallCount * Yard.TRAITS;
            into.wallCount++;
            advance();
            into.traits[row] = takeNumber(1, MOST_DEPTH);
            into.traits[row + 1] = takeOption("ground", 20, 0);
            into.traits[row + 2] = takeOption("shoes", 9, 0);
            into.traits[row + 3] = takeWord("hat") ? 1 : 0;
            into.traits[row + 4] = takeOption("outer", 100, 100);
            into.traits[row + 5] = takeOption("inner", 100, 100);
        }

        private void readWeek(Yard into) {
            if (into.weekCount >= MOST_WEEKS) {
                refuse(TOO_MUCH);
                return;
            }
            int row = into.weekCount * Yard.WEEK_NUMBERS;
            into.weekCount++;
            advance();
            into.told[row] = takeNumber(0, 99);
            into.told[row + 1] = takeNumber(0, 99);
            into.told[row + 2] = takeWord("frost") ? 1 : 0;
        }

        /** Only the first fault along the text counts. */
        private void refuse(int fault) {
            if (faultKind == 0) {
                faultKind = fault;
                faultPlace = start;
            }
        }

        private int takeNumber(int least, int most) {
            if (faultKind != 0) {
                return least;
            }
            if (kind != NUMBER) {
                refuse(CANNOT_STAND);
                return least;
            }
            int number = numberAtHand();
            if (number < least || number > most) {
                refuse(TOO_MUCH);
                return least;
            }
            advance();
            return number;
        }

        private int takeOption(String word, int most, int without) {
            return takeWord(word) ? takeNumber(0, most) : without;
        }

        private boolean takeWord(String word) {
            if (faultKind != 0 || !atWord(word)) {
                return false;
            }
            advance();
            return true;
        }

        private boolean atWord(String word) {
            if (kind != WORD || end - start != word.length()) {
                return false;
            }
            for (int i = 0; i < word.length() && start + i < length; i++) {
                if (text[start + i] != word.charAt(i)) {
                    return false;
                }
            }
            return true;
        }

        /** NONE for five digits or more, which is below every range that is told. */
        private int numberAtHand() {
            if (end - start > 4) {
                return NONE;
            }
            int number = 0;
            for (int i = start; i < end && i < length; i++) {
                number = number * 10 + (text[i] - '0');
            }
            return number;
        }

        private void advance() {
            start = end;
            for (int i = end; i < length && (text[i] == 32 || text[i] == 10); i++) {
                start = i + 1;
            }
            kind = start < length ? kindOf(text[start]) : END;
            end = start < length ? start + 1 : start;
            boolean longest = kind == WORD || kind == NUMBER;
            for (int i = end; longest && i < length && kindOf(text[i]) == kind; i++) {
                end = i + 1;
            }
        }

        private static int kindOf(byte sign) {
            if (sign >= 'a' && sign <= 'z') {
                return WORD;
            }
            if (sign >= '0' && sign <= '9') {
                return NUMBER;
            }
            return sign == ';' ? SEMICOLON : NO_TOKEN;
        }
    }

    /** One wall, or a trial copy of one; a cell's place is 6 by its layer and its cell. */
    private static final class Wall {
        private static final int CRACKED = 1;
        private static final int HOLLOW = 2;
        private static final int FULLY_DRY = 60;
        private static final int MORE_THAN_ANY_LOAD = 1000000;

        private final Yard yard;
        final int[] water = new int[PLACES];
        final int[] marks = new int[PLACES];
        final int[] bulge = new int[MOST_LAYERS];
        int depth = 1;
        int layers;
        int ground;
        int shoes;
        boolean hat;
        int outer;
        int inner;
        boolean prop;
        int past;
        int fell;
        int why;
        int come;
        int gone;

        Wall(Yard yard) {
            this.yard = yard;
        }

        void begin(int which) {
            int row = which * Yard.TRAITS;
            if (row >= 0 && row + Yard.TRAITS <= yard.traits.length) {
                depth = Math.max(1, Math.min(MOST_DEPTH, yard.traits[row]));
                ground = yard.traits[row + 1];
                shoes = yard.traits[row + 2];
                hat = yard.traits[row + 3] == 1;
                outer = yard.traits[row + 4];
                inner = yard.traits[row + 5];
            }
            prop = false;
            layers = 0;
            past = 0;
            fell = 0;
            why = 0;
            come = 0;
            gone = 0;
        }

        void become(Wall other) {
            depth = other.depth;
            layers = other.layers;
            ground = other.ground;
            shoes = other.shoes;
            hat = other.hat;
            outer = other.outer;
            inner = other.inner;
            prop = other.prop;
            past = other.past;
            fell = other.fell;
            why = other.why;
            come = other.come;
            gone = other.gone;
            System.arraycopy(other.water, 0, water, 0, layers * MOST_DEPTH);
            System.arraycopy(other.marks, 0, marks, 0, layers * MOST_DEPTH);
            System.arraycopy(other.bulge, 0, bulge, 0, layers);
        }

        /** Whether its layers are as the other's, so that the same weeks do the same to both. */
        boolean standsLike(Wall other) {
            if (layers != other.layers || depth != other.depth) {
                return false;
            }
            for (int layer = 0; layer < layers; layer++) {
                if (bulge[layer] != other.bulge[layer]) {
                    return false;
                }
                int row = layer * MOST_DEPTH;
                for (int place = row; place < row + depth; place++) {
                    if (water[place] != other.water[place] || marks[place] != other.marks[place]) {
                        return false;
                    }
                }
            }
            return true;
        }

        void raise(int more) {
            for (int i = 0; i < more && layers < MOST_LAYERS; i++) {
                int row = layers * MOST_DEPTH;
                for (int place = row; place < row + depth; place++) {
                    water[place] = FRESH_WATER;
                    marks[place] = 0;
                }
                bulge[layers] = 0;
                come += depth * FRESH_WATER;
                layers++;
            }
        }

        void dropFrom(int layer) {
            if (layer >= 0 && layer < layers) {
                gone += waterFrom(layer);
                layers = layer;
            }
        }

        void fallFrom(int layer) {
            if (layer >= 0 && layer < layers) {
                why = whyGivesWay(layer);
                fell++;
                dropFrom(layer);
            }
        }

        private int whyGivesWay(int layer) {
            int row = layer * MOST_DEPTH;
            int any = 0;
            boolean allPaste = true;
            for (int place = row; place < row + depth; place++) {
                any |= marks[place];
                allPaste = allPaste && water[place] >= PASTE_FROM;
            }
            if ((any & HOLLOW) != 0) {
                return 1;
            }
            if (allPaste) {
                return 2;
            }
            return (any & CRACKED) != 0 ? 3 : 4;
        }

        int waterFrom(int lowest) {
            int sum = 0;
            for (int layer = lowest; layer >= 0 && layer < layers; layer++) {
                int row = layer * MOST_DEPTH;
                for (int place = row; place < row + depth; place++) {
                    sum += water[place];
                }
            }
            return sum;
        }

        void pour(int place, int more) {
            int taken = Math.min(more, MOST_WATER - water[place]);
            water[place] += taken;
            come += taken;
        }

        void evaporate(int place, int less) {
            int lost = Math.min(less, water[place]);
            water[place] -= lost;
            gone += lost;
        }

        void crack(int place) {
            marks[place] |= CRACKED;
        }

        void makeHollow(int place) {
            marks[place] |= HOLLOW;
        }

        boolean isCracked(int place) {
            return (marks[place] & CRACKED) != 0;
        }

        boolean isHollow(int place) {
            return (marks[place] & HOLLOW) != 0;
        }

        int stiffness(int place) {
            if (water[place] >= PASTE_FROM) {
                return 2;
            }
            return water[place] <= HARD_TO ? 0 : 1;
        }

        int strength(int place) {
            if ((marks[place] & HOLLOW) != 0) {
                return 0;
            }
            int dry = PASTE_FROM - water[place];
            int counted = dry < 0 ? 0 : dry > FULLY_DRY ? FULLY_DRY : dry;
            int whole = yard.green + yard.full * counted / FULLY_DRY;
            return (marks[place] & CRACKED) != 0 ? whole / 2 : whole;
        }

        int load(int place) {
            return (marks[place] & HOLLOW) != 0 ? 0 : 10 + water[place] / 50;
        }

        private int propBears() {
            return prop ? 50 : 0;
        }

        int bears(int layer) {
            int row = layer * MOST_DEPTH;
            int sum = propBears();
            for (int place = row; place < row + depth; place++) {
                sum += strength(place);
            }
            return sum;
        }

        int loads(int layer) {
            int row = layer * MOST_DEPTH;
            int sum = 0;
            for (int place = row; place < row + depth; place++) {
                sum += load(place);
            }
            return sum;
        }

        int presses(int layer) {
            int sum = 0;
            for (int above = layer + 1; above < layers; above++) {
                sum += loads(above);
            }
            return sum;
        }

        /** How much more may press on all layers before one sits: below 0, if one does; the most, if there are none. */
        private int spare() {
            int least = MORE_THAN_ANY_LOAD;
            int presses = 0;
            for (int layer = layers - 1; layer >= 0; layer--) {
                least = Math.min(least, bears(layer) - presses);
                presses += loads(layer);
            }
            return least;
        }

        boolean anySits() {
            return spare() < 0;
        }

        /** HIGH: of the layers put up, the lowest bears all the others. */
        int roomAbove() {
            int spare = spare();
            int freshLoad = depth * (10 + FRESH_WATER / 50);
            int freshBears = depth * yard.green + propBears();
            int most = 0;
            for (int n = 1; n <= MOST_RAISED && layers + n <= MOST_LAYERS; n++) {
                if (n * freshLoad <= spare && (n - 1) * freshLoad <= freshBears) {
                    most = n;
                }
            }
            return most;
        }

        void improve(int work) {
            switch (work) {
                case 0: outer = 100; break;
                case 1: inner = 100; break;
                case 2: hat = true; break;
                case 3: shoes = Math.min(9, shoes + 3); break;
                case 4: prop = true; break;
                case 5: ground = 0; break;
                default: break;
            }
        }

        boolean footIsPaste() {
            for (int place = 0; place < depth && layers > 0; place++) {
                if (water[place] >= PASTE_FROM) {
                    return true;
                }
            }
            return false;
        }

        int bulges() {
            int sum = 0;
            for (int layer = 0; layer < layers; layer++) {
                sum += bulge[layer];
            }
            return sum;
        }
    }

    /** Lets a wall go on by its next week of the yard. */
    private static final class Weather {
        private static final int CALM_AIR = 20;
        private static final int CRACKS_BELOW = 150;
        private static final int SHRINK_HARMLESS = 60;
        private static final int SPLASHED = 3;

        private final Yard yard;
        private final int[] ahead = new int[PLACES];
        private final int[] still = new int[PLACES];

        Weather(Yard yard) {
            this.yard = yard;
        }

        /** Whether the wall fell in this week. */
        boolean pass(Wall wall) {
            int rain = 0;
            int air = CALM_AIR;
            boolean frost = false;
            if (yard.weekCount > 0) {
                int row = Math.floorMod(wall.past, yard.weekCount) * Yard.WEEK_NUMBERS;
                rain = yard.told[row];
                air = yard.told[row + 1];
                frost = yard.told[row + 2] == 1;
            }
            System.arraycopy(wall.water, 0, ahead, 0, wall.layers * MOST_DEPTH);
            wet(wall, rain);
            move(wall);
            dry(wall, air);
            crackAll(wall, frost);
            int givesWay = settle(wall);
            wall.past++;
            if (givesWay == NONE) {
                return false;
            }
            wall.fallFrom(givesWay);
            return true;
        }

        private void wet(Wall wall, int rain) {
            if (wall.layers == 0) {
                return;
            }
            int top = (wall.layers - 1) * MOST_DEPTH;
            for (int cell = 0; cell < wall.depth && !wall.hat; cell++) {
                wall.pour(top + cell, rain);
            }
            int splash = rain * wall.outer / 200;
            for (int layer = 0; layer < SPLASHED - wall.shoes && layer < wall.layers; layer++) {
                wall.pour(layer * MOST_DEPTH, splash);
            }
            int rise = wall.ground * Math.max(0, SPLASHED - wall.shoes) / 3;
            for (int cell = 0; cell < wall.depth; cell++) {
                wall.pour(cell, rise);
            }
        }

        /** All flows go by the water as it stood still, whatever has moved already. */
        private void move(Wall wall) {
            System.arraycopy(wall.water, 0, still, 0, wall.layers * MOST_DEPTH);
            for (int layer = 0; layer < wall.layers; layer++) {
                int row = layer * MOST_DEPTH;
                for (int cell = 0; cell < wall.depth; cell++) {
                    int place = row + cell;
                    if (cell + 1 < wall.depth) {
                        flow(wall, place, place + 1, 4);
                    }
                    if (layer + 1 < wall.layers) {
                        flow(wall, place, place + MOST_DEPTH, 8);
                    }
                }
            }
        }

        private void flow(Wall wall, int one, int two, int part) {
            if (part <= 0) {
                return;
            }
            // Java cuts towards 0, so either way it is the cut down part of how much they differ.
            int moved = (still[one] - still[two]) / part;
            wall.water[one] -= moved;
            wall.water[two] += moved;
        }

        private void dry(Wall wall, int air) {
            for (int layer = 0; layer < wall.layers; layer++) {
                int row = layer * MOST_DEPTH;
                int open = layer == wall.layers - 1 ? 50 : 0;
                for (int cell = 0; cell < wall.depth; cell++) {
                    int lets = open;
                    lets += cell == 0 ? wall.outer : 0;
                    lets += cell == wall.depth - 1 ? wall.inner / 2 : 0;
                    int loose = Math.max(0, wall.water[row + cell] - 100);
                    wall.evaporate(row + cell, loose * air * lets / 20000);
                }
            }
        }

        private void crackAll(Wall wall, boolean frost) {
            boolean shrinks = yard.shrink > SHRINK_HARMLESS;
            for (int layer = 0; layer < wall.layers; layer++) {
                int row = layer * MOST_DEPTH;
                if (frost && Math.max(ahead[row], wall.water[row]) >= PASTE_FROM) {
                    wall.crack(row);
                }
                for (int place = row; shrinks && place < row + wall.depth; place++) {
                    if (ahead[place] >= CRACKS_BELOW && wall.water[place] < CRACKS_BELOW) {
                        wall.crack(place);
                    }
                }
            }
        }

        /** The lowest layer that gives way, or NONE. */
        private int settle(Wall wall) {
            int presses = 0;
            int givesWay = NONE;
            for (int layer = wall.layers - 1; layer >= 0; layer--) {
                int bears = wall.bears(layer);
                if (presses > bears) {
                    wall.bulge[layer] += presses >= 2 * bears ? 2 : 1;
                }
                if (wall.bulge[layer] >= FALLS_FROM) {
                    givesWay = layer;
                }
                presses += wall.loads(layer);
            }
            return givesWay;
        }
    }

    /** What comes of a wall, if nothing is put up: WHEN, SHOES, LETS, FOOT. */
    private static final class Forecast {
        private static final int LONGEST_WHEN = 52;

        private final Yard yard;
        private final Weather weather;
        private final Wall trial;
        private final Wall roundBefore;

        Forecast(Yard yard, Weather weather, Wall[] bench) {
            this.yard = yard;
            this.weather = weather;
            trial = bench[0];
            roundBefore = bench[1];
        }

        int weeksUntil(Wall wall, int layers) {
            trial.become(wall);
            for (int week = 0; week <= LONGEST_WHEN; week++) {
                if (trial.roomAbove() >= layers) {
                    return week;
                }
                if (weather.pass(trial)) {
                    return NONE;
                }
            }
            return NONE;
        }

        /** Shoes above 3 do no more than 3, so that none of 4 to 9 can be the fewest. */
        int fewestShoes(Wall wall, int weeks) {
            for (int shoes = 0; shoes <= 3; shoes++) {
                trial.become(wall);
                trial.shoes = shoes;
                if (firstPaste(weeks) == NONE) {
                    return shoes;
                }
            }
            return NONE;
        }

        int leastOuter(Wall wall, int weeks) {
            for (int lets = 0; lets <= 100; lets += 10) {
                trial.become(wall);
                trial.outer = lets;
                if (firstPaste(weeks) == NONE) {
                    return lets;
                }
            }
            return NONE;
        }

        int footPaste(Wall wall, int weeks) {
            trial.become(wall);
            return firstPaste(weeks);
        }

        /** A round of all the yard's weeks that leaves the trial as it was is the same ever after. */
        private int firstPaste(int weeks) {
            int round = Math.max(1, yard.weekCount);
            int sinceRound = 0;
            roundBefore.become(trial);
            for (int week = 1; week <= weeks; week++) {
                weather.pass(trial);
                if (trial.footIsPaste()) {
                    return week;
                }
                sinceRound++;
                if (sinceRound == round) {
                    if (trial.standsLike(roundBefore)) {
                        return NONE;
                    }
                    roundBefore.become(trial);
                    sinceRound = 0;
                }
            }
            return NONE;
        }
    }

    /** PLANS: rows of lifts are tried in their order, short ones first. */
    private static final class Planner {
        private final Weather weather;
        private final Wall[] bench;
        private final int[] row = new int[LONGEST_PLAN];
        final int[] kept = new int[LONGEST_PLAN];
        int keptLength;

        Planner(Weather weather, Wall[] bench) {
            this.weather = weather;
            this.bench = bench;
        }

        void forget() {
            keptLength = 0;
        }

        int weeksTo(Wall wall, int height) {
            if (wall.layers >= height) {
                keptLength = 0;
                return 0;
            }
            bench[0].become(wall);
            for (int weeks = 1; weeks <= LONGEST_PLAN; weeks++) {
                if (reaches(0, weeks, height)) {
                    System.arraycopy(row, 0, kept, 0, weeks);
                    keptLength = weeks;
                    return weeks;
                }
            }
            return NONE;
        }

        private boolean reaches(int week, int weeks, int height) {
            if (week < 0 || week + 1 >= bench.length) {
                return false;
            }
            Wall now = bench[week];
            if (week >= weeks || week >= row.length) {
                return now.layers >= height;
            }
            if (now.layers + CAREFUL_LIFT * (weeks - week) < height) {
                return false;
            }
            for (int more = 0; more <= CAREFUL_LIFT; more++) {
                row[week] = more;
                if (bearsLift(now, bench[week + 1], more) && reaches(week + 1, weeks, height)) {
                    return true;
                }
            }
            return false;
        }

        /** Whether no layer sits behind the lift and behind the week, which next is behind then. */
        private boolean bearsLift(Wall now, Wall next, int more) {
            if (now.layers + more > MOST_LAYERS) {
                return false;
            }
            next.become(now);
            next.raise(more);
            if (next.anySits()) {
                return false;
            }
            weather.pass(next);
            return !next.anySits();
        }
    }

    /** Two walls BY TURNS: rows of weeks are tried in their order, of like ones the first stays. */
    private static final class Turner {
        private final Weather weather;
        private final Wall[] bench;
        private int weeks;
        int best;
        int bestRow;

        Turner(Weather weather, Wall[] bench) {
            this.weather = weather;
            this.bench = bench;
        }

        void search(Wall one, Wall two, int weeks) {
            this.weeks = weeks;
            best = NONE;
            bestRow = 0;
            bench[0].become(one);
            bench[1].become(two);
            seek(0, 0, 0);
        }

        private void seek(int week, int built, int row) {
            if (built + CAREFUL_LIFT * (weeks - week) <= best) {
                return;
            }
            if (week >= weeks || 2 * week + 1 >= bench.length) {
                best = built;
                bestRow = row;
                return;
            }
            for (int side = 0; side < 2; side++) {
                int more = Math.min(CAREFUL_LIFT, bench[2 * week + side].roomAbove());
                goOn(week, side, more);
                seek(week + 1, built + more, row | side << week);
            }
        }

        /** Nobody looks at the walls behind the last week. */
        private void goOn(int week, int side, int more) {
            int from = 2 * week;
            if (week + 1 >= weeks || from + 3 >= bench.length) {
                return;
            }
            bench[from + 2].become(bench[from]);
            bench[from + 3].become(bench[from + 1]);
            bench[from + 2 + side].raise(more);
            weather.pass(bench[from + 2]);
            weather.pass(bench[from + 3]);
        }
    }

    /** ORDERS of works: rows are tried in their order, of like ones the first stays. */
    private static final class Orderer {
        private final Weather weather;
        private final Wall[] bench;
        private final int[] row = new int[WORKS];
        private int best;
        final int[] kept = new int[WORKS];
        int keptLength;

        Orderer(Weather weather, Wall[] bench) {
            this.weather = weather;
            this.bench = bench;
        }

        void forget() {
            keptLength = 0;
        }

        int leastBulges(Wall wall, int works) {
            best = NONE;
            bench[0].become(wall);
            seek(0, works);
            return best;
        }

        /** While nothing falls bulges only grow, so that a row as bad as the best is given up at once. */
        private void seek(int done, int left) {
            if (done < 0 || done + 1 >= bench.length) {
                return;
            }
            Wall now = bench[done];
            int bulges = now.bulges();
            if (best != NONE && bulges >= best) {
                return;
            }
            if (left == 0 || done >= row.length) {
                best = bulges;
                keptLength = done;
                System.arraycopy(row, 0, kept, 0, done);
                return;
            }
            Wall next = bench[done + 1];
            for (int work = 0; work < WORKS; work++) {
                int bit = 1 << work;
                if ((left & bit) != 0) {
                    next.become(now);
                    next.improve(work);
                    row[done] = work;
                    if (!weather.pass(next)) {
                        seek(done + 1, left & ~bit);
                    }
                }
            }
        }
    }

    /** Trial BRICKS and THE LINE between the shares of sand that crack and those that do not. */
    private static final class Bricks {
        private static final int MOST = 40;
        private static final int ALL_SAND = 100;

        int trials;
        int greatestCracked = NONE;
        int leastWhole = NONE;

        void forget() {
            trials = 0;
            greatestCracked = NONE;
            leastWhole = NONE;
        }

        boolean add(int sand, boolean cracked) {
            if (trials >= MOST || sand < 0 || sand > ALL_SAND || gainsays(sand, cracked)) {
                return false;
            }
            trials++;
            if (cracked) {
                greatestCracked = Math.max(greatestCracked, sand);
            } else {
                leastWhole = leastWhole == NONE ? sand : Math.min(leastWhole, sand);
            }
            return true;
        }

        private boolean gainsays(int sand, boolean cracked) {
            return cracked ? leastWhole != NONE && sand >= leastWhole : sand <= greatestCracked;
        }

        private int lowEnd() {
            return greatestCracked == NONE ? 0 : greatestCracked;
        }

        private int highEnd() {
            return leastWhole == NONE ? ALL_SAND : leastWhole;
        }

        int nextShare() {
            return (lowEnd() + highEnd()) / 2;
        }

        int fewestTrials() {
            int halvings = 0;
            for (int apart = highEnd() - lowEnd(); apart > 1 && halvings < ALL_SAND; apart = (apart + 1) / 2) {
                halvings++;
            }
            return halvings;
        }
    }

    /** HOUSES, and which of them come first by so much coin. */
    private static final class Houses {
        private static final int MOST = 12;

        private final int[] worth = new int[MOST];
        private final int[] cost = new int[MOST];
        int known;
        int bestWorth;
        int bestCost;
        int bestSet;

        void forget() {
            known = 0;
        }

        boolean add(int chance, int people, int price) {
            boolean asTold = chance >= 0 && chance <= 1000 && people >= 0 && people <= 99 && price >= 1 && price <= 999;
            if (known >= MOST || !asTold) {
                return false;
            }
            worth[known] = chance * people;
            cost[known] = price;
            known++;
            return true;
        }

        /** Sets come in the order of their bits, so that of like ones the first stays. */
        void choose(int coin) {
            bestWorth = 0;
            bestCost = 0;
            bestSet = 0;
            int nowWorth = 0;
            int nowCost = 0;
            for (int set = 1; set < 1 << known; set++) {
                // As in counting: the lowest houses of the set before go out, and the next one comes in.
                int coming = 0;
                while (coming < known - 1 && (set >> coming & 1) == 0) {
                    nowWorth -= worth[coming];
                    nowCost -= cost[coming];
                    coming++;
                }
                nowWorth += worth[coming];
                nowCost += cost[coming];
                boolean better = nowWorth > bestWorth || nowWorth == bestWorth && nowCost < bestCost;
                if (nowCost <= coin && better) {
                    bestWorth = nowWorth;
                    bestCost = nowCost;
                    bestSet = set;
                }
            }
        }
    }

    /** GUESSES: walls kept as they were, and how many readings of the stick each fits. */
    private static final class Guesses {
        static final int MOST = 4;

        /** Of each guess its places one behind the other, NONE where it has no cell. */
        private final int[] water = new int[MOST * PLACES];
        final int[] fits = new int[MOST];

        Guesses() {
            forget();
        }

        void forget() {
            for (int guess = 0; guess < MOST; guess++) {
                clear(guess);
                fits[guess] = NONE;
            }
        }

        private void clear(int guess) {
            for (int place = 0; place < PLACES; place++) {
                water[guess * PLACES + place] = NONE;
            }
        }

        void keep(int guess, Wall wall) {
            clear(guess);
            fits[guess] = 0;
            int begin = guess * PLACES;
            for (int layer = 0; layer < wall.layers; layer++) {
                int row = layer * MOST_DEPTH;
                for (int place = row; place < row + wall.depth; place++) {
                    water[begin + place] = wall.water[place];
                }
            }
        }

        int reading(int place, int told, int slip) {
            int fitting = 0;
            for (int guess = 0; guess < MOST; guess++) {
                int guessed = water[guess * PLACES + place];
                if (guessed != NONE && Math.abs(guessed - told) <= slip) {
                    fits[guess]++;
                    fitting++;
                }
            }
            return fitting;
        }

        int farthestApart() {
            int best = NONE;
            int farthest = NONE;
            for (int place = 0; place < PLACES; place++) {
                int apart = apartAt(place);
                if (apart > farthest) {
                    farthest = apart;
                    best = place;
                }
            }
            return best;
        }

        /** NONE, if not two of them have the cell. */
        private int apartAt(int place) {
            int having = 0;
            int least = MOST_WATER;
            int most = 0;
            for (int guess = 0; guess < MOST; guess++) {
                int guessed = water[guess * PLACES + place];
                if (guessed != NONE) {
                    having++;
                    least = Math.min(least, guessed);
                    most = Math.max(most, guessed);
                }
            }
            return having < 2 ? NONE : most - least;
        }
    }
}
