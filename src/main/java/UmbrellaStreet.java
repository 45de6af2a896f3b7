import java.util.Arrays;

/** Umbrellas on a pavement: a street told in texts and gone tick by tick, and sums about umbrellas. */
public final class UmbrellaStreet {
    public static final int NONE = -1, UNKNOWN = -2, OUTSIDE = -3, NOT = -4, FULL = -5;

    private static final int MOST_LANES = 4;
    private static final int MOST_PLACES = 12;
    private static final int CELLS = MOST_LANES * MOST_PLACES;
    private static final int WALKERS = 6;
    private static final int TICKS = 60;
    private static final int MOST_RAIN = 99;
    private static final int MOST_START = 20;
    private static final int MOST_HEIGHT = 9;
    private static final int LARGEST = 2;
    private static final int LEFT = 1;
    private static final int RIGHT = 2;
    private static final int MOST_COST = 99;
    private static final int MOST_PRICE = 99;
    private static final int KEPT = 2;
    private static final int FARTHEST = 20;
    private static final int BEST_SOUGHT = 0;
    private static final int FASTEST = 20;
    private static final int MOST_MINUTES = 8;

    private final Plan plan = new Plan();
    private final Plan draft = new Plan();
    private final Text text = new Text();
    private final Walk walk = new Walk();
    private final Walk other = new Walk();
    private final Walk[] keptWalks = new Walk[KEPT];
    private final Trial trial = new Trial();
    private final Row row = new Row();
    private final Market market = new Market();

    public UmbrellaStreet() {
        for (int k = 0; k < keptWalks.length; k++) {
            keptWalks[k] = new Walk();
        }
    }

    // ---- what is told

    public int write(long bytes, int n) {
        if (isNotIn(n, 1, 8)) {
            return OUTSIDE;
        }
        return text.append(bytes, n) ? text.length : FULL;
    }

    public int erase() {
        return text.empty();
    }

    public int fault() {
        draft.copyFrom(plan);
        return text.readInto(draft);
    }

    public int shower() {
        draft.copyFrom(plan);
        if (text.readInto(draft) != NONE) {
            return NOT;
        }
        plan.copyFrom(draft);
        walk.clear();
        for (int k = 0; k < KEPT; k++) {
            Walk kept = keptAt(k);
            if (kept != null) {
                kept.isKept = false;
            }
        }
        text.empty();
        return text.lines;
    }

    public int cell(int cell, int what) {
        if (!plan.hasCell(cell)) {
            return UNKNOWN;
        }
        if (what == 0) {
            return plan.isDry(cell) ? 1 : 0;
        }
        return what == 1 ? walk.whoIsAt(cell) : OUTSIDE;
    }

    public int walker(int walker, int what) {
        if (!plan.hasWalker(walker)) {
            return UNKNOWN;
        }
        switch (what) {
            case 0:
                return walk.cell[walker];
            case 1:
                return walk.wet[walker];
            case 2:
                return walk.pokes[walker];
            case 3:
                return walk.waited[walker];
            case 4:
                return walk.through[walker] ? 1 : 0;
            default:
                return OUTSIDE;
        }
    }

    // ---- ticks

    public int go(int n) {
        if (isNotIn(n, 1, TICKS)) {
            return OUTSIDE;
        }
        for (int i = 0; i < n; i++) {
            walk.tick(plan);
        }
        return walk.ticks;
    }

    public int keep(int k) {
        Walk kept = keptAt(k);
        if (kept == null) {
            return UNKNOWN;
        }
        kept.copyFrom(walk);
        kept.isKept = true;
        return walk.ticks;
    }

    public int back(int k) {
        Walk kept = keptAt(k);
        if (kept == null) {
            return UNKNOWN;
        }
        if (!kept.isKept) {
            return NOT;
        }
        walk.copyFrom(kept);
        return walk.ticks;
    }

    private Walk keptAt(int k) {
        return k >= 0 && k < keptWalks.length ? keptWalks[k] : null;
    }

    public int done() {
        other.clear();
        for (int gone = 0; gone < TICKS; gone++) {
            if (other.isOver(plan)) {
                return gone;
            }
            other.tick(plan);
        }
        return other.isOver(plan) ? TICKS : NONE;
    }

    // ---- sizes

    public int pays(int walker, int sizes, int c, int p) {
        if (!plan.hasWalker(walker)) {
            return UNKNOWN;
        }
        if (!areSizes(sizes, plan.walkers()) || areNotCosts(c, p)) {
            return OUTSIDE;
        }
        if (plan.walkers() > Trial.MOST) {
            return NOT;
        }
        trial.walkWith(plan, sizes);
        return trial.paidBy(walker, c, p);
    }

    public int rests(int c, int p, int what) {
        if (areNotCosts(c, p) || isNotIn(what, 0, 1)) {
            return OUTSIDE;
        }
        if (plan.walkers() > Trial.MOST) {
            return NOT;
        }
        trial.seekRests(plan, c, p);
        return what == 0 ? trial.rests : trial.firstRest;
    }

    public int common(int c, int p, int what) {
        if (areNotCosts(c, p) || isNotIn(what, 0, 1)) {
            return OUTSIDE;
        }
        if (plan.walkers() > Trial.MOST) {
            return NOT;
        }
        trial.seekCommon(plan, c, p);
        return what == 0 ? trial.common : trial.commonPaid;
    }

    /** Bits of sizes behind those of the told ones say nothing: the document reads only theirs. */
    private static boolean areSizes(int sizes, int walkers) {
        for (int i = 0; i < walkers && i < WALKERS; i++) {
            if ((sizes >> 2 * i & 3) > LARGEST) {
                return false;
            }
        }
        return true;
    }

    private static boolean areNotCosts(int c, int p) {
        return isNotIn(c, 0, MOST_COST) || isNotIn(p, 0, MOST_COST);
    }

    // ---- a stop

    public int stand(int place, int size, int height) {
        if (isNotIn(place, 0, Row.PLACES - 1) || isNotIn(size, 0, 3) || isNotIn(height, 0, 9)) {
            return OUTSIDE;
        }
        if (row.isTaken(place)) {
            return NOT;
        }
        return row.add(place, size, height) ? row.people : FULL;
    }

    public int bus() {
        int were = row.people;
        row.people = 0;
        return were;
    }

    public int wet(int one) {
        if (one < 0 || one >= row.people || one >= Row.MOST) {
            return UNKNOWN;
        }
        row.letItRain();
        return row.reaching(row.place[one]);
    }

    public int driest(int what) {
        if (isNotIn(what, 0, 1)) {
            return OUTSIDE;
        }
        row.letItRain();
        int best = row.driestFree();
        return what == 0 ? best : row.reaching(best);
    }

    // ---- two, run, doors, left ones, a seller

    public int two(int s, int a, int b, int d, int what) {
        if (areNotWidths(s, a, b) || isNotIn(d, -FARTHEST, FARTHEST) || isNotIn(what, 0, 1)) {
            return OUTSIDE;
        }
        return what == 0 ? bareOfLeft(s, a, d) : bareOfRight(s, b, d);
    }

    public int fair(int s, int a, int b) {
        if (areNotWidths(s, a, b)) {
            return OUTSIDE;
        }
        int best = 0;
        for (int off = 1; off <= FARTHEST; off++) {
            if (greaterPart(s, a, b, -off) < greaterPart(s, a, b, best)) {
                best = -off;
            }
            if (greaterPart(s, a, b, off) < greaterPart(s, a, b, best)) {
                best = off;
            }
        }
        return best + 100;
    }

    private static boolean areNotWidths(int s, int a, int b) {
        return isNotIn(s, 1, 9) || isNotIn(a, 1, 19) || isNotIn(b, 1, 19);
    }

    private static int bareOfLeft(int s, int a, int d) {
        return a - shared(-a, 0, d - s, d + s);
    }

    private static int bareOfRight(int s, int b, int d) {
        return b - shared(0, b, d - s, d + s);
    }

    private static int shared(int from, int to, int otherFrom, int otherTo) {
        return Math.max(0, Math.min(to, otherTo) - Math.max(from, otherFrom));
    }

    /** The greater of two parts of a width, each times both widths, so that no part is cut. */
    private static int greaterPart(int s, int a, int b, int d) {
        return Math.max(bareOfLeft(s, a, d) * b, bareOfRight(s, b, d) * a);
    }

    public int run(int top, int front, int rain, int wind, int p, int part) {
        if (areNotRunners(top, front, rain, wind) || isNotIn(p, 0, FASTEST) || isNotIn(part, 0, 1)) {
            return OUTSIDE;
        }
        int pace = p == BEST_SOUGHT ? bestPace(top, front, rain, wind) : p;
        return (int) lowest(wetPerWay(top, front, rain, wind, pace), pace, part);
    }

    public int pace(int top, int front, int rain, int wind) {
        if (areNotRunners(top, front, rain, wind)) {
            return OUTSIDE;
        }
        return bestPace(top, front, rain, wind);
    }

    private static boolean areNotRunners(int top, int front, int rain, int wind) {
        return isNotIn(top, 1, 99) || isNotIn(front, 1, 99) || isNotIn(rain, 1, 99) || isNotIn(wind, 0, 20);
    }

    /** How wet one gets by each step, times the pace. */
    private static int wetPerWay(int top, int front, int rain, int wind, int pace) {
        return rain * (top + front * Math.abs(pace - wind));
    }

    private static int bestPace(int top, int front, int rain, int wind) {
        int best = 1;
        for (int pace = 2; pace <= FASTEST; pace++) {
            int by = wetPerWay(top, front, rain, wind, pace) * best;
            if (by < wetPerWay(top, front, rain, wind, best) * pace) {
                best = pace;
            }
        }
        return best;
    }

    public long door(int s, int b, int g, int n, int part) {
        if (isNotIn(s, 0, 10) || isNotIn(b, 0, 10) || isNotIn(g, 0, 999)) {
            return OUTSIDE;
        }
        if (isNotIn(n, 0, MOST_MINUTES) || isNotIn(part, 0, 2)) {
            return OUTSIDE;
        }
        // All that is paid is told in units of 1 / unit, which gets ten times finer by each minute.
        long unit = 10;
        long least = g * unit;
        int waits = 0;
        for (int minute = 1; minute <= n; minute++) {
            long waiting = unit * 10 + (long) s * b * g * (unit / 10) + (10 - s) * least;
            unit *= 10;
            boolean isBetter = waiting < g * unit;
            least = isBetter ? waiting : g * unit;
            waits = isBetter ? waits + 1 : 0;
        }
        return part == 2 ? waits : lowest(least, unit, part);
    }

    public long left(int n, int l, int k, int m, int part) {
        if (isNotIn(n, 1, 9) || isNotIn(l, 0, 10) || isNotIn(k, 0, 10)) {
            return OUTSIDE;
        }
        if (isNotIn(m, 0, n) || isNotIn(part, 0, 1)) {
            return OUTSIDE;
        }
        int lost = l * (10 - k);
        long above = 0;
        long ways = 1;
        for (int j = 0; j <= n; j++) {
            if (j >= m) {
                above += ways * power(lost, j) * power(100 - lost, n - j);
            }
            ways = ways * (n - j) / (j + 1);
        }
        return lowest(above, power(100, n), part);
    }

    private static long power(long base, int times) {
        long product = 1;
        for (int i = 0; i < times; i++) {
            product *= base;
        }
        return product;
    }

    public int seller(int place, int price) {
        if (place < 0 || place >= plan.places) {
            return UNKNOWN;
        }
        if (isNotIn(price, 1, MOST_PRICE)) {
            return OUTSIDE;
        }
        market.watch(plan, other);
        return market.income(place, price);
    }

    public int where(int what) {
        if (isNotIn(what, 0, 2)) {
            return OUTSIDE;
        }
        market.watch(plan, other);
        market.seekBest(plan.places);
        if (what == 0) {
            return market.bestPlace;
        }
        return what == 1 ? market.bestPrice : market.best;
    }

    public int count(int what) {
        switch (what) {
            case 0:
                return plan.lanes;
            case 1:
                return plan.places;
            case 2:
                return plan.walkers();
            case 3:
                return walk.onStreet();
            case 4:
                return walk.ticks;
            case 5:
                return text.length;
            case 6:
                return row.people;
            case 7:
                return walk.pairPokes;
            default:
                return OUTSIDE;
        }
    }

    private static boolean isNotIn(int number, int least, int most) {
        return number < least || number > most;
    }

    /** One part of above by below in lowest terms. */
    private static long lowest(long above, long below, int part) {
        long divisor = commonDivisor(above, below);
        if (divisor < 1) {
            return 0;
        }
        return part == 0 ? above / divisor : below / divisor;
    }

    private static long commonDivisor(long one, long another) {
        long greater = one;
        long less = another;
        for (int step = 0; step < 1000 && less != 0; step++) {
            long rest = greater % less;
            greater = less;
            less = rest;
        }
        return greater;
    }

    /** What the texts have told. */
    private static final class Plan {
        static final int WALKER_NUMBERS = 7;

        int lanes = 2;
        int places = 6;
        final boolean[] awning = new boolean[CELLS];
        final boolean[] told = new boolean[WALKERS];
        final int[] lane = new int[WALKERS];
        final int[] way = new int[WALKERS];
        final int[] start = new int[WALKERS];
        final int[] height = new int[WALKERS];
        final int[] size = new int[WALKERS];
        final int[] rule = new int[WALKERS];
        final int[] rain = new int[TICKS];

        void copyFrom(Plan from) {
            lanes = from.lanes;
            places = from.places;
            for (int i = 0; i < CELLS; i++) {
                awning[i] = from.awning[i];
            }
            for (int k = 0; k < WALKERS; k++) {
                told[k] = from.told[k];
                lane[k] = from.lane[k];
                way[k] = from.way[k];
                start[k] = from.start[k];
                height[k] = from.height[k];
                size[k] = from.size[k];
                rule[k] = from.rule[k];
            }
            for (int t = 0; t < TICKS; t++) {
                rain[t] = from.rain[t];
            }
        }

        /** Rain that was told stays on a new street. */
        void lay(int newLanes, int newPlaces) {
            lanes = newLanes;
            places = newPlaces;
            for (int i = 0; i < CELLS; i++) {
                awning[i] = false;
            }
            for (int k = 0; k < WALKERS; k++) {
                told[k] = false;
            }
        }

        void cover(int cell) {
            if (hasCell(cell)) {
                awning[cell] = true;
            }
        }

        /** The numbers are those of a line that tells a walker, in its order. */
        void welcome(int[] numbers) {
            if (numbers.length < WALKER_NUMBERS || numbers[0] < 0 || numbers[0] >= WALKERS) {
                return;
            }
            int walker = numbers[0];
            told[walker] = true;
            lane[walker] = numbers[1];
            way[walker] = numbers[2];
            start[walker] = numbers[3];
            height[walker] = numbers[4];
            size[walker] = numbers[5];
            rule[walker] = numbers[6];
        }

        void forget(int walker) {
            if (hasWalker(walker)) {
                told[walker] = false;
            }
        }

        void pour(int from, int to, int amount) {
            for (int t = Math.max(0, from); t <= to && t < TICKS; t++) {
                rain[t] = amount;
            }
        }

        boolean hasCell(int cell) {
            return cell >= 0 && cell < CELLS && cell % MOST_LANES < lanes && cell / MOST_LANES < places;
        }

        boolean isDry(int cell) {
            return hasCell(cell) && awning[cell];
        }

        boolean hasWalker(int walker) {
            return walker >= 0 && walker < WALKERS && told[walker];
        }

        int walkers() {
            int sum = 0;
            for (int k = 0; k < WALKERS; k++) {
                sum += told[k] ? 1 : 0;
            }
            return sum;
        }

        int rainOf(int tick) {
            return tick >= 0 && tick < TICKS ? rain[tick] : 0;
        }
    }

    /** The text and its reading, token by token. */
    private static final class Text {
        private static final int MOST_BYTES = 200;
        private static final int MOST_LINES = 8;
        private static final int BLANK = 32;
        private static final int LINE_END = 59;
        private static final int AT_END = 0;
        private static final int LETTERS = 1;
        private static final int DIGITS = 2;
        private static final int SIGN = 3;

        final int[] bytes = new int[MOST_BYTES];
        final int[] numbers = new int[Plan.WALKER_NUMBERS];
        int length;
        int lines;
        /** Where the token read last begins, where it ends, what it is. */
        int from;
        int to;
        int kind;

        boolean append(long more, int n) {
            if (length + n > MOST_BYTES) {
                return false;
            }
            for (int i = 0; i < n && length < MOST_BYTES; i++) {
                bytes[length] = (int) (more >> 8 * i & 255);
                length++;
            }
            return true;
        }

        int empty() {
            int were = length;
            length = 0;
            return were;
        }

        /** Does the lines on a plan, up to the first fault: its place, or NONE. */
        int readInto(Plan plan) {
            to = 0;
            for (int line = 1; line <= MOST_LINES; line++) {
                lines = line;
                if (!readLine(plan)) {
                    return from;
                }
                readToken();
                if (kind == AT_END) {
                    return NONE;
                }
                if (kind != SIGN || byteAt(from) != LINE_END) {
                    return from;
                }
            }
            return from;
        }

        boolean readLine(Plan plan) {
            readToken();
            if (isWord("street")) {
                return readStreet(plan);
            }
            if (isWord("awning")) {
                return readAwning(plan);
            }
            if (isWord("walker")) {
                return readWalker(plan);
            }
            if (isWord("gone")) {
                return readGone(plan);
            }
            return isWord("rain") && readRain(plan);
        }

        boolean readStreet(Plan plan) {
            if (!reads(0, 1, MOST_LANES) || !reads(1, 1, MOST_PLACES)) {
                return false;
            }
            plan.lay(numbers[0], numbers[1]);
            return true;
        }

        boolean readAwning(Plan plan) {
            if (!reads(0, 0, plan.places - 1) || !reads(1, 0, plan.lanes - 1)) {
                return false;
            }
            plan.cover(MOST_LANES * numbers[0] + numbers[1]);
            return true;
        }

        boolean readWalker(Plan plan) {
            if (!reads(0, 0, WALKERS - 1) || !reads(1, 0, plan.lanes - 1) || !reads(2, 0, 1)) {
                return false;
            }
            if (!reads(3, 0, MOST_START) || !reads(4, 1, MOST_HEIGHT)) {
                return false;
            }
            if (!reads(5, 0, LARGEST) || !reads(6, 0, RIGHT)) {
                return false;
            }
            plan.welcome(numbers);
            return true;
        }

        boolean readGone(Plan plan) {
            if (!reads(0, 0, WALKERS - 1)) {
                return false;
            }
            plan.forget(numbers[0]);
            return true;
        }

        boolean readRain(Plan plan) {
            if (!reads(0, 0, TICKS - 1) || !reads(1, numbers[0], TICKS - 1) || !reads(2, 0, MOST_RAIN)) {
                return false;
            }
            plan.pour(numbers[0], numbers[1], numbers[2]);
            return true;
        }

        /** Reads the next token as number i of a line; says whether it can stand there. */
        boolean reads(int i, int least, int most) {
            readToken();
            if (kind != DIGITS || to - from > 2 || i < 0 || i >= numbers.length) {
                return false;
            }
            int number = 0;
            for (int at = from; at < to; at++) {
                number = 10 * number + byteAt(at) - '0';
            }
            numbers[i] = number;
            return !isNotIn(number, least, most);
        }

        boolean isWord(String word) {
            if (kind != LETTERS || to - from != word.length()) {
                return false;
            }
            for (int i = 0; i < word.length(); i++) {
                if (byteAt(from + i) != word.charAt(i)) {
                    return false;
                }
            }
            return true;
        }

        void readToken() {
            from = to;
            while (from < length && byteAt(from) == BLANK) {
                from++;
            }
            to = from;
            if (from >= length) {
                kind = AT_END;
                return;
            }
            kind = kindOf(byteAt(from));
            to++;
            while (kind != SIGN && to < length && kindOf(byteAt(to)) == kind) {
                to++;
            }
        }

        int byteAt(int place) {
            return place >= 0 && place < length && place < MOST_BYTES ? bytes[place] : 0;
        }

        static int kindOf(int sign) {
            if (sign >= 'a' && sign <= 'z') {
                return LETTERS;
            }
            return sign >= '0' && sign <= '9' ? DIGITS : SIGN;
        }
    }

    /** Where walkers are and what they got, tick by tick. */
    private static final class Walk {
        /** Only of the kept ones: it holds what was kept since the last text. */
        boolean isKept;
        int ticks;
        int pairPokes;
        final int[] cell = new int[WALKERS];
        final boolean[] through = new boolean[WALKERS];
        final int[] wet = new int[WALKERS];
        final int[] pokes = new int[WALKERS];
        final int[] waited = new int[WALKERS];

        Walk() {
            Arrays.fill(cell, NONE);
        }

        void clear() {
            ticks = 0;
            pairPokes = 0;
            for (int k = 0; k < WALKERS; k++) {
                cell[k] = NONE;
                through[k] = false;
                wet[k] = 0;
                pokes[k] = 0;
                waited[k] = 0;
            }
        }

        void copyFrom(Walk from) {
            ticks = from.ticks;
            pairPokes = from.pairPokes;
            for (int k = 0; k < WALKERS; k++) {
                cell[k] = from.cell[k];
                through[k] = from.through[k];
                wet[k] = from.wet[k];
                pokes[k] = from.pokes[k];
                waited[k] = from.waited[k];
            }
        }

        int whoIsAt(int sought) {
            for (int k = 0; k < WALKERS; k++) {
                if (cell[k] == sought && sought != NONE) {
                    return k;
                }
            }
            return NONE;
        }

        int onStreet() {
            int sum = 0;
            for (int k = 0; k < WALKERS; k++) {
                sum += isOn(k) ? 1 : 0;
            }
            return sum;
        }

        boolean isOver(Plan plan) {
            for (int k = 0; k < WALKERS; k++) {
                if (plan.told[k] && !through[k]) {
                    return false;
                }
            }
            return true;
        }

        void tick(Plan plan) {
            if (ticks >= TICKS) {
                return;
            }
            for (int k = 0; k < WALKERS; k++) {
                if (isOn(k)) {
                    move(plan, k);
                }
            }
            for (int k = 0; k < WALKERS; k++) {
                if (plan.told[k] && plan.start[k] <= ticks && !isOn(k) && !through[k]) {
                    come(plan, k);
                }
            }
            poke(plan);
            rain(plan);
            ticks++;
        }

        boolean isOn(int k) {
            return k >= 0 && k < WALKERS && cell[k] != NONE;
        }

        void move(Plan plan, int k) {
            int place = cell[k] / MOST_LANES;
            int lane = cell[k] % MOST_LANES;
            int ahead = plan.way[k] == 0 ? place + 1 : place - 1;
            int beside = MOST_LANES * place + laneBeside(plan, k, lane);
            if (ahead < 0 || ahead >= plan.places) {
                through[k] = true;
                cell[k] = NONE;
            } else if (whoIsAt(MOST_LANES * ahead + lane) == NONE) {
                cell[k] = MOST_LANES * ahead + lane;
            } else if (laneBeside(plan, k, lane) != NONE && whoIsAt(beside) == NONE) {
                cell[k] = beside;
            } else {
                waited[k]++;
            }
        }

        /** The lane to which the rule of a walker gives way; NONE if there is none. */
        int laneBeside(Plan plan, int k, int lane) {
            if (plan.rule[k] != LEFT && plan.rule[k] != RIGHT) {
                return NONE;
            }
            boolean isLess = (plan.rule[k] == LEFT) == (plan.way[k] == 0);
            int beside = isLess ? lane - 1 : lane + 1;
            return beside >= 0 && beside < plan.lanes ? beside : NONE;
        }

        void come(Plan plan, int k) {
            int place = plan.way[k] == 0 ? 0 : plan.places - 1;
            int first = MOST_LANES * place + plan.lane[k];
            if (whoIsAt(first) == NONE) {
                cell[k] = first;
            }
        }

        void poke(Plan plan) {
            for (int k = 0; k < WALKERS; k++) {
                for (int j = 0; j < k; j++) {
                    if (isOn(j) && isOn(k) && isPoking(plan, j, k)) {
                        pokes[j]++;
                        pokes[k]++;
                        pairPokes++;
                    }
                }
            }
        }

        boolean isPoking(Plan plan, int j, int k) {
            if (plan.size[j] == 0 || plan.size[k] == 0) {
                return false;
            }
            return Math.abs(plan.height[j] - plan.height[k]) < 2
                    && placesApart(j, k) <= 1
                    && lanesApart(j, k) <= Math.max(plan.size[j], plan.size[k]);
        }

        int placesApart(int j, int k) {
            return Math.abs(cell[j] / MOST_LANES - cell[k] / MOST_LANES);
        }

        int lanesApart(int j, int k) {
            return Math.abs(cell[j] % MOST_LANES - cell[k] % MOST_LANES);
        }

        void rain(Plan plan) {
            int amount = plan.rainOf(ticks);
            for (int k = 0; k < WALKERS; k++) {
                if (!isOn(k) || plan.isDry(cell[k])) {
                    continue;
                }
                int size = plan.size[k];
                wet[k] += size > 0 ? amount / (size + 1) : amountOnBare(plan, k, amount);
            }
        }

        /** What one without an umbrella gets, by the umbrellas of others at its place. */
        int amountOnBare(Plan plan, int k, int amount) {
            int sum = amount;
            for (int j = 0; j < WALKERS; j++) {
                if (j == k || !isOn(j) || plan.size[j] == 0 || placesApart(j, k) != 0) {
                    continue;
                }
                if (lanesApart(j, k) < plan.size[j]) {
                    return 0;
                }
                sum += lanesApart(j, k) == plan.size[j] ? amount / 2 : 0;
            }
            return sum;
        }
    }

    /** What walkers pay in a whole street by sizes tried out. */
    private static final class Trial {
        static final int MOST = 4;
        private static final int CHOICES = 81;

        final Plan plan = new Plan();
        final Walk walk = new Walk();
        final int[] paid = new int[CHOICES * MOST];
        int rests;
        int firstRest;
        int common;
        int commonPaid;

        void walkWith(Plan told, int sizes) {
            plan.copyFrom(told);
            int i = 0;
            for (int k = 0; k < WALKERS; k++) {
                if (plan.told[k]) {
                    plan.size[k] = sizes >> 2 * i & 3;
                    i++;
                }
            }
            walk.clear();
            for (int t = 0; t < TICKS; t++) {
                walk.tick(plan);
            }
        }

        int paidBy(int k, int c, int p) {
            if (k < 0 || k >= WALKERS) {
                return 0;
            }
            return walk.wet[k] + c * plan.size[k] + p * walk.pokes[k];
        }

        void seekRests(Plan told, int c, int p) {
            int walkers = Math.min(MOST, told.walkers());
            int choices = 1;
            for (int i = 0; i < walkers; i++) {
                choices *= LARGEST + 1;
            }
            for (int choice = 0; choice < choices; choice++) {
                walkWith(told, sizesOf(choice, walkers));
                notePaid(choice, c, p);
            }
            rests = 0;
            firstRest = NONE;
            for (int choice = choices - 1; choice >= 0; choice--) {
                if (isRest(choice, walkers)) {
                    rests++;
                    firstRest = sizesOf(choice, walkers);
                }
            }
        }

        /** The size of the first walker counts most in a choice, so that choices go by walkers. */
        static int sizesOf(int choice, int walkers) {
            int sizes = 0;
            int rest = choice;
            for (int i = walkers - 1; i >= 0; i--) {
                sizes |= rest % (LARGEST + 1) << 2 * i;
                rest /= LARGEST + 1;
            }
            return sizes;
        }

        void notePaid(int choice, int c, int p) {
            int at = choice * MOST;
            for (int k = 0; k < WALKERS; k++) {
                if (plan.told[k] && at >= 0 && at < paid.length) {
                    paid[at] = paidBy(k, c, p);
                    at++;
                }
            }
        }

        boolean isRest(int choice, int walkers) {
            int rest = choice;
            int step = 1;
            for (int i = walkers - 1; i >= 0; i--) {
                int smallest = choice - rest % (LARGEST + 1) * step;
                for (int size = 0; size <= LARGEST; size++) {
                    if (paidIn(smallest + size * step, i) < paidIn(choice, i)) {
                        return false;
                    }
                }
                rest /= LARGEST + 1;
                step *= LARGEST + 1;
            }
            return true;
        }

        int paidIn(int choice, int i) {
            int at = choice * MOST + i;
            return at >= 0 && at < paid.length ? paid[at] : 0;
        }

        void seekCommon(Plan told, int c, int p) {
            common = NONE;
            for (int size = 0; size <= LARGEST; size++) {
                walkWith(told, size * 0b0101_0101_0101);
                int sum = 0;
                for (int k = 0; k < WALKERS; k++) {
                    sum += plan.told[k] ? paidBy(k, c, p) : 0;
                }
                if (common == NONE || sum < commonPaid) {
                    common = size;
                    commonPaid = sum;
                }
            }
        }
    }

    /** People in a row at a stop, and the water that runs off their umbrellas. */
    private static final class Row {
        static final int MOST = 8;
        static final int PLACES = 20;
        private static final int FALLING = 1024;

        int people;
        final int[] place = new int[MOST];
        final int[] size = new int[MOST];
        final int[] height = new int[MOST];
        /** What has come onto each umbrella, and below all of them at each place. */
        final int[] load = new int[MOST];
        final int[] ground = new int[PLACES];

        boolean isTaken(int sought) {
            for (int i = 0; i < people && i < MOST; i++) {
                if (place[i] == sought) {
                    return true;
                }
            }
            return false;
        }

        boolean add(int newPlace, int newSize, int newHeight) {
            if (people < 0 || people >= MOST) {
                return false;
            }
            place[people] = newPlace;
            size[people] = newSize;
            height[people] = newHeight;
            people++;
            return true;
        }

        void letItRain() {
            Arrays.fill(load, 0);
            Arrays.fill(ground, 0);
            for (int x = 0; x < PLACES; x++) {
                drop(x, FALLING, NONE);
            }
            // From the highest umbrella down, so that each has all its water before it runs off.
            int upper = highestBelow(NONE);
            for (int i = 0; i < MOST && upper >= 0 && upper < MOST; i++) {
                runOff(upper);
                upper = highestBelow(upper);
            }
        }

        void runOff(int one) {
            if (one < 0 || one >= MOST) {
                return;
            }
            int half = load[one] / 2;
            drop(place[one] - size[one], load[one] - half, one);
            drop(place[one] + size[one], half, one);
        }

        /** Water falls at a place from an umbrella, or from the sky (NONE). */
        void drop(int x, int amount, int from) {
            if (x < 0 || x >= PLACES) {
                return;
            }
            int onto = NONE;
            for (int i = 0; i < people && i < MOST; i++) {
                if (isOver(i, x) && isLower(i, from) && (onto == NONE || isLower(onto, i))) {
                    onto = i;
                }
            }
            if (onto >= 0 && onto < MOST) {
                load[onto] += amount;
            } else {
                ground[x] += amount;
            }
        }

        /** The next umbrella below one, or below the sky (NONE). */
        int highestBelow(int from) {
            int best = NONE;
            for (int i = 0; i < people && i < MOST; i++) {
                if (size[i] > 0 && isLower(i, from) && (best == NONE || isLower(best, i))) {
                    best = i;
                }
            }
            return best;
        }

        boolean isOver(int i, int x) {
            return i >= 0 && i < MOST && Math.abs(place[i] - x) < size[i];
        }

        boolean isLower(int i, int than) {
            if (i < 0 || i >= MOST || than < 0 || than >= MOST) {
                return than == NONE;
            }
            return height[i] < height[than] || height[i] == height[than] && i < than;
        }

        int reaching(int x) {
            return x >= 0 && x < PLACES ? ground[x] : 0;
        }

        int driestFree() {
            int best = NONE;
            for (int x = 0; x < PLACES; x++) {
                if (!isTaken(x) && (best == NONE || ground[x] < reaching(best))) {
                    best = x;
                }
            }
            return best;
        }
    }

    /** What a seller of umbrellas takes in. */
    private static final class Market {
        private static final int NEVER = -1;

        /** By place and walker: what one gets wet behind the tick at which it is there first. */
        final int[] worth = new int[MOST_PLACES * WALKERS];
        int bestPlace;
        int bestPrice;
        int best;

        void watch(Plan plan, Walk walk) {
            Arrays.fill(worth, NEVER);
            walk.clear();
            for (int t = 0; t < TICKS; t++) {
                walk.tick(plan);
                noteFirst(plan, walk);
            }
            for (int i = 0; i < worth.length; i++) {
                if (worth[i] != NEVER) {
                    worth[i] = walk.wet[i % WALKERS] - worth[i];
                }
            }
        }

        void noteFirst(Plan plan, Walk walk) {
            for (int k = 0; k < WALKERS; k++) {
                if (!walk.isOn(k) || plan.size[k] != 0) {
                    continue;
                }
                int at = walk.cell[k] / MOST_LANES * WALKERS + k;
                if (at >= 0 && at < worth.length && worth[at] == NEVER) {
                    worth[at] = walk.wet[k];
                }
            }
        }

        int income(int place, int price) {
            int sum = 0;
            for (int k = 0; k < WALKERS; k++) {
                int at = place * WALKERS + k;
                if (at >= 0 && at < worth.length && worth[at] >= price) {
                    sum += price;
                }
            }
            return sum;
        }

        void seekBest(int places) {
            best = NONE;
            for (int place = 0; place < places && place < MOST_PLACES; place++) {
                for (int price = 1; price <= MOST_PRICE; price++) {
                    if (income(place, price) > best) {
                        best = income(place, price);
                        bestPlace = place;
                        bestPrice = price;
                    }
                }
            }
        }
    }
}
