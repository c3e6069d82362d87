import java.util.Arrays;

/** A year that begins when a snail has crossed the churchyard to a line. */
public final class SnailsYear {
    public static final int BAD = -1, NO = -2, FULL = -3, NONE = -4;

    private static final String FIRST_TEXT =
            "y5,4;k5,1;k6,2;k9,4;k11,3;k12,1;k14,1;s1;d4;d0;d2;r3,10;r5,4;r9,7;h0;h3;";
    private static final int GRASS = 0, GRAVE = 1, SALT = 2, LETTUCE = 3, SHADE = 4;
    private static final int MOST_LETTERS = 200, MOST_CELLS = 25, SIDES = 4;
    private static final int MOST_DAMPS = 9, MOST_RENTS = 5, MOST_HEIRS = 4;
    private static final int MOST_DAMP = 9, DAMP_UNTOLD = 3, DAMP_FOR_SHADE = 3;
    private static final int SMELLS_LETTUCE = 4;
    private static final int MOST_NIGHTS = 30, LAST_NIGHT = 999;
    private static final int MOST_UNDONE = 8, MOST_KEPT = 2, MOST_SEEN = 8;
    private static final int LIKELY_NIGHTS = 6, LIKELY_DAMP = 6, LIKELY_OF = 10;
    private static final int LAST_DRAW = 9999, DRAW_MODULUS = 65521, DRAW_DAMPS = 7;
    /** More STEPS than any way through 25 CELLS takes. */
    private static final int UNREACHED = 1000;

    private final Letters text = new Letters();
    private final Reader reader = new Reader(text);
    private final Walker walker = new Walker();
    private final Scene now = new Scene();
    /** What would be: each question walks the snail here, and leaves NOW as it is. */
    private final Scene trial = new Scene();
    private final Pile done = new Pile(MOST_UNDONE);
    private final Pile kept = new Pile(MOST_KEPT);
    private final Sightings sightings = new Sightings();
    private final int[] chosen = new int[2];
    /** The YARD as LAID, and one to read a TEXT into that may yet have a FAULT. */
    private Yard laid = new Yard();
    private Yard spare = new Yard();

    public SnailsYear() {
        for (int i = 0; i < FIRST_TEXT.length(); i++) {
            text.add(FIRST_TEXT.charAt(i));
        }
        reader.readInto(laid);
        text.length = 0;
        now.setOut(laid);
    }

    // ---- yards

    public int write(int letter) {
        if (letter < 32 || letter > 126) {
            return BAD;
        }
        return text.add(letter) ? text.length : FULL;
    }

    public int wipe() {
        int was = text.length;
        text.length = 0;
        return was;
    }

    public int fault() {
        return reader.readInto(spare);
    }

    public int lay() {
        if (text.length == 0 || reader.readInto(spare) != NONE) {
            return NO;
        }
        Yard old = laid;
        laid = spare;
        spare = old;
        now.setOut(laid);
        sightings.size = 0;
        done.size = 0;
        kept.size = 0;
        return laid.cells;
    }

    public int cell(int x, int what) {
        if (!laid.has(x) || what < 0 || what > 1) {
            return BAD;
        }
        int kind = now.kindAt(x);
        if (what == 0) {
            return kind;
        }
        return kind == SALT ? NONE : stepsInto(kind, laid.dampOn(now.night));
    }

    public int damp(int n) {
        return n < 0 || n > LAST_NIGHT ? BAD : laid.dampOn(n);
    }

    // ---- nights

    public int pass(int n) {
        if (n < 1 || n > MOST_NIGHTS) {
            return BAD;
        }
        if (now.night + n > LAST_NIGHT) {
            return NO;
        }
        done.add(now);
        goNights(now, n);
        return now.night;
    }

    public int lettuce(int x) {
        if (!laid.has(x)) {
            return BAD;
        }
        if (!isFreeGrass(x)) {
            return NO;
        }
        done.add(now);
        now.setKind(x, LETTUCE);
        return now.countOf(LETTUCE, laid.cells);
    }

    public int salt(int x) {
        if (!laid.has(x)) {
            return BAD;
        }
        int kind = now.kindAt(x);
        if (x == now.snail || kind == GRAVE || kind == SALT) {
            return NO;
        }
        done.add(now);
        now.setKind(x, SALT);
        return kind;
    }

    public int stone(int x, int y) {
        if (!laid.has(x) || !laid.has(y)) {
            return BAD;
        }
        if (now.kindAt(x) != GRAVE || !isFreeGrass(y)) {
            return NO;
        }
        done.add(now);
        now.setKind(x, GRASS);
        now.setKind(y, GRAVE);
        return now.countOf(GRAVE, laid.cells);
    }

    public int undo() {
        return done.takeInto(now) ? done.size : NO;
    }

    // ---- the snail

    public int where(int n) {
        if (n < 0 || n > MOST_NIGHTS) {
            return BAD;
        }
        trial.become(now);
        goNights(trial, n);
        return trial.snail;
    }

    public int begins() {
        trial.become(now);
        return nightsTillBegun(trial);
    }

    public int due() {
        trial.become(now);
        boolean never = nightsTillBegun(trial) == NONE;
        return laid.rentsTill(never ? LAST_NIGHT : trial.begunOn);
    }

    public int heir() {
        trial.become(now);
        if (nightsTillBegun(trial) == NONE) {
            return NONE;
        }
        return laid.heirNearest(laid.columnOf(trial.snail));
    }

    public int far(int x) {
        if (!laid.has(x)) {
            return BAD;
        }
        int steps = walker.stepsTo(x, laid, now);
        return steps < UNREACHED ? steps : NONE;
    }

    // ---- what would be

    public int layFor(int a, int b, int k) {
        if (a < 0 || a > MOST_NIGHTS || b < 0 || b > MOST_NIGHTS || k < 0 || k > 2) {
            return BAD;
        }
        int many = chooseLettuces(a, b);
        if (k == 0 || many == NONE) {
            return many;
        }
        return k <= many ? chosen[k - 1] : NONE;
    }

    public int decides() {
        trial.become(now);
        int asItIs = nightsTillBegun(trial);
        int bits = 0;
        for (int x = 0; x < laid.cells; x++) {
            if (now.kindAt(x) == GRAVE) {
                trial.become(now);
                trial.setKind(x, GRASS);
                if (nightsTillBegun(trial) != asItIs) {
                    bits |= 1 << x;
                }
            }
        }
        return bits;
    }

    public int latest(int what) {
        if (what < 0 || what > 1) {
            return BAD;
        }
        int most = NONE;
        int place = NONE;
        for (int x = 0; x < laid.cells; x++) {
            if (isFreeGrass(x)) {
                trial.become(now);
                trial.setKind(x, SALT);
                int nights = nightsTillBegun(trial);
                if (nights > most) {
                    most = nights;
                    place = x;
                }
            }
        }
        return what == 0 ? place : most;
    }

    // ---- what was seen

    public int seen(int x, int n) {
        if (!laid.has(x) || n < 0 || n > MOST_NIGHTS) {
            return BAD;
        }
        return sightings.add(x, n) ? sightings.size : FULL;
    }

    public int forget() {
        int were = sightings.size;
        sightings.size = 0;
        return were;
    }

    public int salter(int what) {
        if (what < 0 || what > 1) {
            return BAD;
        }
        if (what == 1) {
            return agreesIfSalted(NONE) ? 1 : 0;
        }
        int bits = 0;
        for (int x = 0; x < laid.cells; x++) {
            if (laid.kindAt(x) == GRASS && x != laid.start && agreesIfSalted(x)) {
                bits |= 1 << x;
            }
        }
        return bits;
    }

    public int slept() {
        trial.setOut(laid);
        int bits = 0;
        for (int n = 0; n < MOST_NIGHTS; n++) {
            if (walker.goNight(laid, trial, laid.dampOn(n))) {
                bits |= 1 << n;
            }
        }
        return bits;
    }

    public int likely(int n, int x, int part) {
        if (isNoChance(n, x) || part < 0 || part > 1) {
            return BAD;
        }
        int above = waysToBegin(n, x);
        int below = power(LIKELY_OF, n);
        int common = Math.max(1, commonDivisor(above, below));
        return (part == 0 ? above : below) / common;
    }

    public int bet(int n, int x) {
        if (isNoChance(n, x)) {
            return BAD;
        }
        int above = waysToBegin(n, x);
        int rest = power(LIKELY_OF, n) - above;
        if (above == rest) {
            return 0;
        }
        return above > rest ? 1 : 2;
    }

    public int year(int z, int what) {
        if (z < 0 || z > LAST_DRAW || what < 0 || what > 1) {
            return BAD;
        }
        trial.become(now);
        int nights = 0;
        while (nights < MOST_NIGHTS && !trial.hasBegun()) {
            walker.goNight(laid, trial, drawnDamp(z, nights));
            nights++;
        }
        if (what == 1) {
            return trial.snail;
        }
        return trial.hasBegun() ? nights : NONE;
    }

    // ---- kept

    public int keep() {
        if (kept.size >= MOST_KEPT) {
            return FULL;
        }
        kept.add(now);
        return kept.size;
    }

    public int back() {
        if (!kept.takeInto(now)) {
            return NO;
        }
        done.size = 0;
        return kept.size;
    }

    public int count(int what) {
        switch (what) {
            case 0: return laid.cells;
            case 1: return laid.columns;
            case 2: return now.night;
            case 3: return now.snail;
            case 4: return now.countOf(LETTUCE, laid.cells);
            case 5: return now.countOf(GRAVE, laid.cells);
            case 6: return now.countOf(SALT, laid.cells);
            case 7: return laid.rentCount;
            case 8: return laid.heirCount;
            case 9: return sightings.size;
            case 10: return done.size;
            case 11: return kept.size;
            case 12: return text.length;
            default: return BAD;
        }
    }

    // ---- what several calls need

    private boolean isFreeGrass(int x) {
        return now.kindAt(x) == GRASS && x != now.snail;
    }

    private void goNights(Scene scene, int nights) {
        for (int n = 0; n < nights; n++) {
            walker.goNight(laid, scene, laid.dampOn(scene.night));
        }
    }

    private int nightsTillBegun(Scene scene) {
        int nights = 0;
        while (nights < MOST_NIGHTS && !scene.hasBegun()) {
            walker.goNight(laid, scene, laid.dampOn(scene.night));
            nights++;
        }
        return scene.hasBegun() ? nights : NONE;
    }

    /** How many LETTUCES are to be laid; which, is put into CHOSEN. */
    private int chooseLettuces(int a, int b) {
        trial.become(now);
        if (isWithin(nightsTillBegun(trial), a, b)) {
            return 0;
        }
        for (int x = 0; x < laid.cells; x++) {
            if (isFreeGrass(x)) {
                tryLettuces(x, x);
                if (isWithin(nightsTillBegun(trial), a, b)) {
                    return 1;
                }
            }
        }
        for (int x = 0; x < laid.cells; x++) {
            for (int y = x + 1; y < laid.cells; y++) {
                if (isFreeGrass(x) && isFreeGrass(y)) {
                    tryLettuces(x, y);
                    if (isWithin(nightsTillBegun(trial), a, b)) {
                        return 2;
                    }
                }
            }
        }
        return NONE;
    }

    private void tryLettuces(int lower, int higher) {
        chosen[0] = lower;
        chosen[1] = higher;
        trial.become(now);
        trial.setKind(lower, LETTUCE);
        trial.setKind(higher, LETTUCE);
    }

    /** NONE is less than any number of nights, so that it is never within. */
    private static boolean isWithin(int nights, int a, int b) {
        return nights >= a && nights <= b;
    }

    /** Whether all that was SEEN would be so, had that CELL (or NONE) been SALT. */
    private boolean agreesIfSalted(int x) {
        trial.setOut(laid);
        trial.setKind(x, SALT);
        boolean agrees = sightings.agree(trial.snail, 0);
        for (int n = 1; agrees && n <= MOST_NIGHTS; n++) {
            walker.goNight(laid, trial, laid.dampOn(n - 1));
            agrees = sightings.agree(trial.snail, n);
        }
        return agrees;
    }

    private static boolean isNoChance(int n, int x) {
        return n < 0 || n > LIKELY_NIGHTS || x < 0 || x > LIKELY_OF;
    }

    /**
     * How many of 10 to the n ways have the YEAR begun. On a night without DAMP
     * nothing changes, so it depends alone on how many damp nights there are.
     */
    private int waysToBegin(int n, int x) {
        trial.become(now);
        int ways = 0;
        for (int damps = 0; damps <= n; damps++) {
            if (trial.hasBegun()) {
                ways += choices(n, damps) * power(x, damps) * power(LIKELY_OF - x, n - damps);
            }
            walker.goNight(laid, trial, LIKELY_DAMP);
        }
        return ways;
    }

    private static int choices(int n, int k) {
        int result = 1;
        for (int i = 1; i <= k; i++) {
            result = result * (n - i + 1) / i;
        }
        return result;
    }

    private static int power(int base, int times) {
        int result = 1;
        for (int i = 0; i < times; i++) {
            result *= base;
        }
        return result;
    }

    private static int commonDivisor(int a, int b) {
        int large = a;
        int small = b;
        for (int turn = 0; small > 0 && turn < 64; turn++) {
            int rest = large % small;
            large = small;
            small = rest;
        }
        return large;
    }

    private static int drawnDamp(int z, int k) {
        long q = 7919L * z + 6151L * k + 1;
        return (int) (q * q % DRAW_MODULUS / 8 % DRAW_DAMPS);
    }

    private static int stepsInto(int kind, int damp) {
        switch (kind) {
            case GRAVE: return 3;
            case SHADE: return damp < DAMP_FOR_SHADE ? 1 : 2;
            case SALT: return UNREACHED;
            default: return 1;
        }
    }

    private static final class Letters {
        private final int[] letters = new int[MOST_LETTERS];
        private int length = 0;

        boolean add(int letter) {
            if (length < 0 || length >= letters.length) {
                return false;
            }
            letters[length] = letter;
            length++;
            return true;
        }

        /** The letter there, or 0, which is none, behind the last. */
        int at(int place) {
            return place >= 0 && place < length && place < letters.length ? letters[place] : 0;
        }
    }

    /** Reads a TEXT, ITEM by ITEM, into a YARD, up to the first FAULT. */
    private static final class Reader {
        private final Letters text;
        private int place = 0;
        private int first = 0;
        private int second = 0;
        private boolean yardIsFixed = false;

        Reader(Letters text) {
            this.text = text;
        }

        /** The place of the FAULT, or NONE; with a FAULT the YARD is worth nothing. */
        int readInto(Yard yard) {
            place = 0;
            yardIsFixed = false;
            yard.clear();
            for (int items = 0; items < MOST_LETTERS && place < text.length; items++) {
                int start = place;
                if (!readItem(yard)) {
                    return start;
                }
            }
            yard.letOff();
            return NONE;
        }

        private boolean readItem(Yard yard) {
            int letter = text.at(place);
            place++;
            switch (letter) {
                case 'y':
                case 'k':
                case 'r':
                    return readTwo() && takeTwo(letter, yard);
                case 's':
                case 'd':
                case 'h':
                    return readOne() && takeOne(letter, yard);
                default:
                    return false;
            }
        }

        private boolean readOne() {
            first = readNumber();
            return first != NONE && readSign(';');
        }

        private boolean readTwo() {
            first = readNumber();
            if (first == NONE || !readSign(',')) {
                return false;
            }
            second = readNumber();
            return second != NONE && readSign(';');
        }

        private boolean readSign(int sign) {
            boolean there = text.at(place) == sign;
            place++;
            return there;
        }

        private int readNumber() {
            int number = NONE;
            for (int figures = 0; figures < 2 && isFigure(text.at(place)); figures++) {
                int figure = text.at(place) - '0';
                number = figures == 0 ? figure : number * 10 + figure;
                place++;
            }
            return number;
        }

        private static boolean isFigure(int letter) {
            return letter >= '0' && letter <= '9';
        }

        private boolean takeOne(int letter, Yard yard) {
            yardIsFixed = true;
            switch (letter) {
                case 's': return yard.takeStart(first);
                case 'd': return yard.takeDamp(first);
                default: return yard.takeHeir(first);
            }
        }

        private boolean takeTwo(int letter, Yard yard) {
            if (letter == 'y') {
                return !yardIsFixed && yard.takeShape(first, second);
            }
            yardIsFixed = true;
            return letter == 'k' ? yard.takeKind(first, second) : yard.takeRent(first, second);
        }
    }

    /** What a TEXT tells. */
    private static final class Yard {
        private final int[] kinds = new int[MOST_CELLS];
        private final int[] column = new int[MOST_CELLS];
        /** Four to a CELL: the CELLS beside it from the lowest on, NONE where the YARD ends. */
        private final int[] beside = new int[MOST_CELLS * SIDES];
        private final int[] damps = new int[MOST_DAMPS];
        private final int[] rentNights = new int[MOST_RENTS];
        private final int[] rents = new int[MOST_RENTS];
        private final int[] heirs = new int[MOST_HEIRS];
        private int columns = 0;
        private int cells = 0;
        private int start = 0;
        private int dampCount = 0;
        private int rentCount = 0;
        private int heirCount = 0;

        void clear() {
            Arrays.fill(kinds, GRASS);
            start = 0;
            dampCount = 0;
            rentCount = 0;
            heirCount = 0;
            takeShape(5, 4);
        }

        boolean takeShape(int rowsTold, int columnsTold) {
            if (rowsTold < 3 || rowsTold > 5 || columnsTold < 2 || columnsTold > 5) {
                return false;
            }
            columns = columnsTold;
            cells = rowsTold * columnsTold;
            int x = 0;
            for (int r = 0; r < rowsTold; r++) {
                for (int c = 0; c < columnsTold; c++) {
                    column[x] = c;
                    beside[x * SIDES] = r > 0 ? x - columnsTold : NONE;
                    beside[x * SIDES + 1] = c > 0 ? x - 1 : NONE;
                    beside[x * SIDES + 2] = c < columnsTold - 1 ? x + 1 : NONE;
                    beside[x * SIDES + 3] = r < rowsTold - 1 ? x + columnsTold : NONE;
                    x++;
                }
            }
            return true;
        }

        boolean takeKind(int x, int kind) {
            if (!has(x) || kind < GRASS || kind > SHADE) {
                return false;
            }
            kinds[x] = kind;
            return true;
        }

        boolean takeStart(int c) {
            if (c < 0 || c >= columns) {
                return false;
            }
            start = c;
            return true;
        }

        boolean takeDamp(int damp) {
            if (damp < 0 || damp > MOST_DAMP || dampCount >= damps.length) {
                return false;
            }
            damps[dampCount] = damp;
            dampCount++;
            return true;
        }

        boolean takeRent(int night, int rent) {
            boolean told = night >= 0 && night <= 60 && rent >= 1 && rent <= 99;
            if (!told || rentCount >= rents.length) {
                return false;
            }
            rentNights[rentCount] = night;
            rents[rentCount] = rent;
            rentCount++;
            return true;
        }

        boolean takeHeir(int c) {
            if (c < 0 || c > 4 || heirCount >= heirs.length) {
                return false;
            }
            heirs[heirCount] = c;
            heirCount++;
            return true;
        }

        /** Only once all is read: a later ITEM may tell another start, or a KIND for it. */
        void letOff() {
            if (has(start)) {
                kinds[start] = GRASS;
            }
        }

        boolean has(int x) {
            return x >= 0 && x < cells && x < kinds.length;
        }

        boolean isOfLine(int x) {
            return x >= cells - columns && x < cells;
        }

        int kindAt(int x) {
            return has(x) ? kinds[x] : SALT;
        }

        int columnOf(int x) {
            return has(x) ? column[x] : 0;
        }

        int besideAt(int x, int side) {
            boolean told = x >= 0 && x < MOST_CELLS && side >= 0 && side < SIDES;
            return told ? beside[x * SIDES + side] : NONE;
        }

        int dampOn(int night) {
            if (dampCount <= 0 || night < 0) {
                return DAMP_UNTOLD;
            }
            return damps[night % dampCount];
        }

        int rentsTill(int night) {
            int sum = 0;
            for (int i = 0; i < rentCount; i++) {
                if (rentNights[i] <= night) {
                    sum += rents[i];
                }
            }
            return sum;
        }

        int heirNearest(int c) {
            int nearest = NONE;
            int least = UNREACHED;
            for (int i = 0; i < heirCount; i++) {
                int apart = Math.abs(heirs[i] - c);
                if (apart < least) {
                    least = apart;
                    nearest = i;
                }
            }
            return nearest;
        }
    }

    /** What changes as nights go by: the CELLS, the SNAIL, the night and the YEAR. */
    private static final class Scene {
        /** How many numbers a Scene is when it is put away in a row. */
        private static final int SIZE = MOST_CELLS + 3;

        private final int[] kinds = new int[MOST_CELLS];
        private int snail = 0;
        private int night = 0;
        /** The night on which the YEAR began, NONE till then. */
        private int begunOn = NONE;

        void setOut(Yard yard) {
            System.arraycopy(yard.kinds, 0, kinds, 0, MOST_CELLS);
            snail = yard.start;
            night = 0;
            begunOn = NONE;
        }

        void become(Scene other) {
            System.arraycopy(other.kinds, 0, kinds, 0, MOST_CELLS);
            snail = other.snail;
            night = other.night;
            begunOn = other.begunOn;
        }

        boolean hasBegun() {
            return begunOn != NONE;
        }

        /** SALT beyond the YARD: nothing comes there. */
        int kindAt(int x) {
            return x >= 0 && x < kinds.length ? kinds[x] : SALT;
        }

        void setKind(int x, int kind) {
            if (x >= 0 && x < kinds.length) {
                kinds[x] = kind;
            }
        }

        int countOf(int kind, int cells) {
            int many = 0;
            for (int x = 0; x < cells; x++) {
                if (kindAt(x) == kind) {
                    many++;
                }
            }
            return many;
        }

        void putInto(int[] row, int from) {
            if (from >= 0 && from <= row.length - SIZE) {
                System.arraycopy(kinds, 0, row, from, MOST_CELLS);
                row[from + MOST_CELLS] = snail;
                row[from + MOST_CELLS + 1] = night;
                row[from + MOST_CELLS + 2] = begunOn;
            }
        }

        void takeFrom(int[] row, int from) {
            if (from >= 0 && from <= row.length - SIZE) {
                System.arraycopy(row, from, kinds, 0, MOST_CELLS);
                snail = row[from + MOST_CELLS];
                night = row[from + MOST_CELLS + 1];
                begunOn = row[from + MOST_CELLS + 2];
            }
        }
    }

    /** Scenes put away, the last one on top; one too many pushes out the oldest. */
    private static final class Pile {
        private final int[] row;
        private final int most;
        private int size = 0;

        Pile(int most) {
            this.most = Math.max(1, most);
            this.row = new int[this.most * Scene.SIZE];
        }

        void add(Scene scene) {
            if (size >= most) {
                System.arraycopy(row, Scene.SIZE, row, 0, (most - 1) * Scene.SIZE);
                size = most - 1;
            }
            scene.putInto(row, size * Scene.SIZE);
            size++;
        }

        boolean takeInto(Scene scene) {
            if (size <= 0) {
                return false;
            }
            size--;
            scene.takeFrom(row, size * Scene.SIZE);
            return true;
        }
    }

    /** What was SEEN. */
    private static final class Sightings {
        private final int[] places = new int[MOST_SEEN];
        private final int[] nights = new int[MOST_SEEN];
        private int size = 0;

        boolean add(int x, int n) {
            if (size < 0 || size >= MOST_SEEN) {
                return false;
            }
            places[size] = x;
            nights[size] = n;
            size++;
            return true;
        }

        boolean agree(int x, int n) {
            for (int i = 0; i < size; i++) {
                if (nights[i] == n && places[i] != x) {
                    return false;
                }
            }
            return true;
        }
    }

    /** How the SNAIL goes. */
    private static final class Walker {
        private final int[] fromSnail = new int[MOST_CELLS];
        private final int[] fromGoal = new int[MOST_CELLS];

        /** One night goes by: whether the SNAIL SLEEPS. */
        boolean goNight(Yard yard, Scene scene, int damp) {
            boolean sleeps = false;
            boolean goesOn = !scene.hasBegun();
            int left = damp;
            for (int gone = 0; goesOn && gone <= MOST_DAMP; gone++) {
                int next = nextCell(yard, scene);
                int steps = stepsInto(scene.kindAt(next), damp);
                if (next == NONE || steps > left) {
                    sleeps = next != NONE && gone == 0;
                    goesOn = false;
                } else {
                    left -= steps;
                    goesOn = comeInto(next, yard, scene) && left > 0;
                }
            }
            scene.night++;
            return sleeps;
        }

        /** Whether it may go farther that night. */
        private static boolean comeInto(int x, Yard yard, Scene scene) {
            boolean eats = scene.kindAt(x) == LETTUCE;
            scene.snail = x;
            if (eats) {
                scene.setKind(x, GRASS);
            }
            if (yard.isOfLine(x)) {
                scene.begunOn = scene.night;
            }
            return !eats && !scene.hasBegun();
        }

        private int nextCell(Yard yard, Scene scene) {
            spread(scene.snail, yard, scene, fromSnail);
            int goal = nearestLettuce(yard, scene);
            if (goal == NONE) {
                goal = nearestOfLine(yard);
            }
            if (goal == NONE) {
                return NONE;
            }
            // A way walked backwards takes as many STEPS, but for the goal's own,
            // which all ways share: so the fewest from the goal are the fewest to it.
            spread(goal, yard, scene, fromGoal);
            int next = NONE;
            int fewest = UNREACHED;
            for (int side = 0; side < SIDES; side++) {
                int x = yard.besideAt(scene.snail, side);
                if (x >= 0 && x < fromGoal.length && fromGoal[x] < fewest) {
                    fewest = fromGoal[x];
                    next = x;
                }
            }
            return next;
        }

        private int nearestLettuce(Yard yard, Scene scene) {
            int nearest = NONE;
            int fewest = SMELLS_LETTUCE + 1;
            for (int x = 0; x < yard.cells && x < fromSnail.length; x++) {
                if (scene.kindAt(x) == LETTUCE && fromSnail[x] < fewest) {
                    fewest = fromSnail[x];
                    nearest = x;
                }
            }
            return nearest;
        }

        private int nearestOfLine(Yard yard) {
            int nearest = NONE;
            int fewest = UNREACHED;
            for (int x = 0; x < yard.cells && x < fromSnail.length; x++) {
                if (yard.isOfLine(x) && fromSnail[x] < fewest) {
                    fewest = fromSnail[x];
                    nearest = x;
                }
            }
            return nearest;
        }

        int stepsTo(int x, Yard yard, Scene scene) {
            spread(scene.snail, yard, scene, fromSnail);
            return x >= 0 && x < fromSnail.length ? fromSnail[x] : UNREACHED;
        }

        /** The STEPS from a CELL to each other one, SHADE being 2. */
        private static void spread(int from, Yard yard, Scene scene, int[] steps) {
            Arrays.fill(steps, UNREACHED);
            if (from < 0 || from >= steps.length) {
                return;
            }
            steps[from] = 0;
            boolean changed = true;
            for (int round = 0; changed && round < MOST_CELLS; round++) {
                changed = false;
                for (int x = 0; x < yard.cells && x < steps.length; x++) {
                    for (int side = 0; side < SIDES && steps[x] < UNREACHED; side++) {
                        int y = yard.besideAt(x, side);
                        int sum = steps[x] + stepsInto(scene.kindAt(y), DAMP_FOR_SHADE);
                        if (y >= 0 && y < steps.length && sum < steps[y] && sum < UNREACHED) {
                            steps[y] = sum;
                            changed = true;
                        }
                    }
                }
            }
        }
    }
}
