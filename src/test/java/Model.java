import java.math.BigInteger;
import java.util.ArrayList;
import java.util.Arrays;
import java.util.Comparator;
import java.util.List;
import java.util.TreeMap;
import java.util.regex.Matcher;
import java.util.regex.Pattern;

/** The document told a second time, slowly and by other means, to compare the program with. */
final class Model {
    private static final long NONE = -1, UNKNOWN = -2, OUTSIDE = -3, NOT = -4, FULL = -5;

    /** A walker as told, and what it has got. */
    static final class Person implements Cloneable {
        int number, lane, way, start, height, size, rule;
        int place = -1, row = -1;
        boolean has, through;
        int wet, pokes, waited;
        List<Integer> wetByTick = new ArrayList<>();
        List<Integer> placeByTick = new ArrayList<>();

        boolean on() {
            return has && !through;
        }

        Person fresh() {
            Person p = new Person();
            p.number = number;
            p.lane = lane;
            p.way = way;
            p.start = start;
            p.height = height;
            p.size = size;
            p.rule = rule;
            return p;
        }

        Person same() {
            Person p = fresh();
            p.place = place;
            p.row = row;
            p.has = has;
            p.through = through;
            p.wet = wet;
            p.pokes = pokes;
            p.waited = waited;
            p.wetByTick.addAll(wetByTick);
            p.placeByTick.addAll(placeByTick);
            return p;
        }
    }

    /** A street and the state of all on it. */
    static final class World {
        int w = 2, l = 6, ticks;
        List<List<Integer>> awnings = new ArrayList<>();
        TreeMap<Integer, Person> people = new TreeMap<>();
        int[] rain = new int[60];

        World copy(boolean fresh) {
            World o = new World();
            o.w = w;
            o.l = l;
            o.awnings.addAll(awnings);
            o.rain = rain.clone();
            o.ticks = fresh ? 0 : ticks;
            people.forEach((k, p) -> o.people.put(k, fresh ? p.fresh() : p.same()));
            return o;
        }

        boolean free(int place, int row) {
            return people.values().stream().noneMatch(p -> p.on() && p.place == place && p.row == row);
        }

        void tick() {
            if (ticks == 60) {
                return;
            }
            int t = ticks++;
            for (Person p : people.values()) {
                if (p.on()) {
                    step(p);
                }
            }
            for (Person p : people.values()) {
                int first = p.way == 1 ? l - 1 : 0;
                if (!p.has && p.start <= t && free(first, p.lane)) {
                    p.has = true;
                    p.place = first;
                    p.row = p.lane;
                }
            }
            for (Person p : people.values()) {
                for (Person q : people.values()) {
                    if (p != q && meets(p, q)) {
                        p.pokes++;
                    }
                }
                p.wetByTick.add(p.on() ? wetOf(p, rain[t]) : 0);
                p.wet += p.wetByTick.get(p.wetByTick.size() - 1);
                p.placeByTick.add(p.on() ? p.place : -1);
            }
        }

        private void step(Person p) {
            int next = p.place + (p.way == 0 ? 1 : -1);
            if (next == -1 || next == l) {
                p.through = true;
                return;
            }
            if (free(next, p.row)) {
                p.place = next;
                return;
            }
            int side = p.rule == 0 ? 0 : p.rule == 1 ? -1 : 1;
            int row = p.row + (p.way == 0 ? side : -side);
            if (side != 0 && row >= 0 && row < w && free(p.place, row)) {
                p.row = row;
            } else {
                p.waited++;
            }
        }

        private boolean meets(Person p, Person q) {
            boolean armed = p.on() && q.on() && p.size * q.size > 0;
            int high = p.height - q.height;
            int far = p.place - q.place;
            int wide = p.row - q.row;
            int reach = p.size > q.size ? p.size : q.size;
            return armed && high * high < 4 && far * far < 2 && wide * wide <= reach * reach;
        }

        private int wetOf(Person p, int n) {
            if (awnings.contains(List.of(p.place, p.row))) {
                return 0;
            }
            if (p.size > 0) {
                return n / (p.size + 1);
            }
            int got = n;
            boolean over = false;
            for (Person q : people.values()) {
                if (q != p && q.on() && q.size > 0 && q.place == p.place) {
                    int apart = Math.abs(q.row - p.row);
                    over |= apart < q.size;
                    got += apart == q.size ? n / 2 : 0;
                }
            }
            return over ? 0 : got;
        }

        World whole() {
            World o = copy(true);
            for (int i = 0; i < 60; i++) {
                o.tick();
            }
            return o;
        }
    }

    World world = new World();
    final World[] kept = new World[2];
    String text = "";
    final List<int[]> row = new ArrayList<>();

    // ---- texts

    private static final Pattern TOKEN = Pattern.compile("[a-z]+|[0-9]+|[^ ]", Pattern.DOTALL);

    /** Does the lines on a world; the fault, or NONE. */
    private static int read(String text, World o) {
        List<String> tokens = new ArrayList<>();
        List<Integer> at = new ArrayList<>();
        Matcher m = TOKEN.matcher(text);
        while (m.find()) {
            tokens.add(m.group());
            at.add(m.start());
        }
        tokens.add("");
        at.add(text.length());
        int i = 0;
        for (int line = 1; ; line++) {
            String word = tokens.get(i);
            List<String> words = List.of("street", "awning", "walker", "gone", "rain");
            if (!words.contains(word)) {
                return at.get(i);
            }
            int[] counts = {2, 2, 7, 1, 3};
            int[] got = new int[counts[words.indexOf(word)]];
            i++;
            for (int j = 0; j < got.length; j++, i++) {
                if (!tokens.get(i).matches("[0-9]{1,2}")) {
                    return at.get(i);
                }
                got[j] = Integer.parseInt(tokens.get(i));
                int[] bounds = bounds(word, j, got, o);
                if (got[j] < bounds[0] || got[j] > bounds[1]) {
                    return at.get(i);
                }
            }
            perform(word, got, o);
            if (tokens.get(i).isEmpty()) {
                return -1;
            }
            if (!tokens.get(i).equals(";") || line == 8) {
                return at.get(i);
            }
            i++;
        }
    }

    private static int[] bounds(String word, int j, int[] got, World o) {
        switch (word) {
            case "street":
                return j == 0 ? new int[] {1, 4} : new int[] {1, 12};
            case "awning":
                return j == 0 ? new int[] {0, o.l - 1} : new int[] {0, o.w - 1};
            case "walker":
                return new int[][] {{0, 5}, {0, o.w - 1}, {0, 1}, {0, 20}, {1, 9}, {0, 2}, {0, 2}}[j];
            case "gone":
                return new int[] {0, 5};
            default:
                return new int[][] {{0, 59}, {got[0], 59}, {0, 99}}[j];
        }
    }

    private static void perform(String word, int[] got, World o) {
        switch (word) {
            case "street":
                o.w = got[0];
                o.l = got[1];
                o.awnings.clear();
                o.people.clear();
                break;
            case "awning":
                o.awnings.add(List.of(got[0], got[1]));
                break;
            case "walker":
                Person p = new Person();
                p.number = got[0];
                p.lane = got[1];
                p.way = got[2];
                p.start = got[3];
                p.height = got[4];
                p.size = got[5];
                p.rule = got[6];
                o.people.put(p.number, p);
                break;
            case "gone":
                o.people.remove(got[0]);
                break;
            default:
                Arrays.fill(o.rain, got[0], got[1] + 1, got[2]);
        }
    }

    long write(long bytes, long n) {
        if (n < 1 || n > 8) {
            return OUTSIDE;
        }
        if (text.length() + n > 200) {
            return FULL;
        }
        for (int i = 0; i < n; i++) {
            text += (char) (bytes >>> 8 * i & 255);
        }
        return text.length();
    }

    long erase() {
        int were = text.length();
        text = "";
        return were;
    }

    long fault() {
        return read(text, world.copy(true));
    }

    long shower() {
        World o = world.copy(true);
        if (read(text, o) != -1) {
            return NOT;
        }
        world = o;
        kept[0] = null;
        kept[1] = null;
        long lines = text.chars().filter(c -> c == ';').count() + 1;
        text = "";
        return lines;
    }

    long cell(long cell, long what) {
        for (int x = 0; x < world.l; x++) {
            for (int y = 0; y < world.w; y++) {
                if (4 * x + y == cell) {
                    int place = x;
                    int lane = y;
                    if (what == 0) {
                        return world.awnings.contains(List.of(x, y)) ? 1 : 0;
                    }
                    return what != 1 ? OUTSIDE : world.people.values().stream()
                            .filter(p -> p.on() && p.place == place && p.row == lane)
                            .mapToLong(p -> p.number).findFirst().orElse(NONE);
                }
            }
        }
        return UNKNOWN;
    }

    private Person person(World o, long walker) {
        return walker < 0 || walker > 5 ? null : o.people.get((int) walker);
    }

    long walker(long walker, long what) {
        Person p = person(world, walker);
        if (p == null) {
            return UNKNOWN;
        }
        if (what < 0 || what > 4) {
            return OUTSIDE;
        }
        long[] all = {p.on() ? 4 * p.place + p.row : NONE, p.wet, p.pokes, p.waited, p.through ? 1 : 0};
        return all[(int) what];
    }

    // ---- ticks

    long go(long n) {
        if (n < 1 || n > 60) {
            return OUTSIDE;
        }
        for (int i = 0; i < n; i++) {
            world.tick();
        }
        return world.ticks;
    }

    long keep(long k) {
        if (k != 0 && k != 1) {
            return UNKNOWN;
        }
        kept[(int) k] = world.copy(false);
        return world.ticks;
    }

    long back(long k) {
        if (k != 0 && k != 1) {
            return UNKNOWN;
        }
        if (kept[(int) k] == null) {
            return NOT;
        }
        world = kept[(int) k].copy(false);
        return world.ticks;
    }

    long done() {
        World o = world.copy(true);
        while (o.people.values().stream().anyMatch(p -> !p.through)) {
            if (o.ticks == 60) {
                return NONE;
            }
            o.tick();
        }
        return o.ticks;
    }

    // ---- sizes

    private static boolean costs(long c, long p) {
        return c >= 0 && c < 100 && p >= 0 && p < 100;
    }

    private static long paid(Person q, long c, long p) {
        return q.wet + c * q.size + p * q.pokes;
    }

    private World sized(List<Integer> sizes) {
        World o = world.copy(true);
        int i = 0;
        for (Person p : o.people.values()) {
            p.size = sizes.get(i++);
        }
        return o.whole();
    }

    long pays(long walker, long sizes, long c, long p) {
        if (person(world, walker) == null) {
            return UNKNOWN;
        }
        List<Integer> list = new ArrayList<>();
        for (int i = 0; i < world.people.size(); i++) {
            list.add((int) (sizes >> 2 * i) & 3);
        }
        if (list.contains(3) || !costs(c, p)) {
            return OUTSIDE;
        }
        if (list.size() > 4) {
            return NOT;
        }
        return paid(sized(list).people.get((int) walker), c, p);
    }

    private static void allSizes(int n, List<Integer> start, List<List<Integer>> into) {
        if (start.size() == n) {
            into.add(start);
            return;
        }
        for (int s = 0; s < 3; s++) {
            List<Integer> next = new ArrayList<>(start);
            next.add(s);
            allSizes(n, next, into);
        }
    }

    long rests(long c, long p, long what) {
        if (!costs(c, p) || what < 0 || what > 1) {
            return OUTSIDE;
        }
        int n = world.people.size();
        if (n > 4) {
            return NOT;
        }
        List<List<Integer>> all = new ArrayList<>();
        allSizes(n, new ArrayList<>(), all);
        TreeMap<String, List<Long>> pay = new TreeMap<>();
        for (List<Integer> sizes : all) {
            List<Long> list = new ArrayList<>();
            sized(sizes).people.values().forEach(q -> list.add(paid(q, c, p)));
            pay.put(sizes.toString(), list);
        }
        List<List<Integer>> resting = new ArrayList<>();
        for (List<Integer> sizes : all) {
            boolean rests = true;
            for (int i = 0; i < n; i++) {
                for (int s = 0; s < 3; s++) {
                    List<Integer> another = new ArrayList<>(sizes);
                    another.set(i, s);
                    rests &= pay.get(another.toString()).get(i) >= pay.get(sizes.toString()).get(i);
                }
            }
            if (rests) {
                resting.add(sizes);
            }
        }
        if (what == 0) {
            return resting.size();
        }
        if (resting.isEmpty()) {
            return NONE;
        }
        long bits = 0;
        for (int i = 0; i < n; i++) {
            bits += (long) resting.get(0).get(i) << 2 * i;
        }
        return bits;
    }

    long common(long c, long p, long what) {
        if (!costs(c, p) || what < 0 || what > 1) {
            return OUTSIDE;
        }
        int n = world.people.size();
        if (n > 4) {
            return NOT;
        }
        long[] sums = new long[3];
        for (int s = 0; s < 3; s++) {
            World o = sized(java.util.Collections.nCopies(n, s));
            sums[s] = o.people.values().stream().mapToLong(q -> paid(q, c, p)).sum();
        }
        long least = Arrays.stream(sums).min().getAsLong();
        return what == 1 ? least : sums[0] == least ? 0 : sums[1] == least ? 1 : 2;
    }

    // ---- a stop: each place's water followed drop by drop

    long stand(long place, long size, long height) {
        if (place < 0 || place > 19 || size < 0 || size > 3 || height < 0 || height > 9) {
            return OUTSIDE;
        }
        if (row.stream().anyMatch(p -> p[0] == place)) {
            return NOT;
        }
        if (row.size() == 8) {
            return FULL;
        }
        row.add(new int[] {(int) place, (int) size, (int) height, row.size()});
        return row.size();
    }

    long bus() {
        int were = row.size();
        row.clear();
        return were;
    }

    private long[] ground() {
        List<int[]> down = new ArrayList<>(row);
        down.sort(Comparator.comparingInt((int[] p) -> 10 * p[2] + p[3]).reversed());
        long[] ground = new long[20];
        for (int x = 0; x < 20; x++) {
            fall(down, 0, x, 1024, ground);
        }
        return ground;
    }

    private static void fall(List<int[]> down, int from, int x, long water, long[] ground) {
        if (x < 0 || x > 19) {
            return;
        }
        for (int i = from; i < down.size(); i++) {
            int[] p = down.get(i);
            if (p[1] > 0 && Math.abs(p[0] - x) <= p[1] - 1) {
                fall(down, i + 1, p[0] - p[1], water - water / 2, ground);
                fall(down, i + 1, p[0] + p[1], water / 2, ground);
                return;
            }
        }
        ground[x] += water;
    }

    long wet(long one) {
        return one < 0 || one >= row.size() ? UNKNOWN : ground()[row.get((int) one)[0]];
    }

    long driest(long what) {
        if (what < 0 || what > 1) {
            return OUTSIDE;
        }
        long[] ground = ground();
        int best = -1;
        for (int x = 19; x >= 0; x--) {
            int place = x;
            if (row.stream().noneMatch(p -> p[0] == place) && (best < 0 || ground[x] <= ground[best])) {
                best = x;
            }
        }
        return what == 0 ? best : ground[best];
    }

    // ---- two, run, doors, left ones, a seller

    private static long bare(long s, long from, long to, long d) {
        long sum = 0;
        for (long x = from; x < to; x++) {
            sum += x < d - s || x >= d + s ? 1 : 0;
        }
        return sum;
    }

    private static boolean in(long n, long least, long most) {
        return least <= n && n <= most;
    }

    long two(long s, long a, long b, long d, long what) {
        if (!in(s, 1, 9) || !in(a, 1, 19) || !in(b, 1, 19) || !in(d, -20, 20) || !in(what, 0, 1)) {
            return OUTSIDE;
        }
        return what == 0 ? bare(s, -a, 0, d) : bare(s, 0, b, d);
    }

    long fair(long s, long a, long b) {
        if (!in(s, 1, 9) || !in(a, 1, 19) || !in(b, 1, 19)) {
            return OUTSIDE;
        }
        List<long[]> all = new ArrayList<>();
        for (long d = -20; d <= 20; d++) {
            all.add(new long[] {Math.max(bare(s, -a, 0, d) * b, bare(s, 0, b, d) * a), Math.abs(d), d});
        }
        all.sort(Comparator.comparingLong((long[] e) -> e[0]).thenComparingLong(e -> e[1]).thenComparingLong(e -> e[2]));
        return all.get(0)[2] + 100;
    }

    private static long part(BigInteger above, BigInteger below, long part) {
        BigInteger g = above.gcd(below);
        return (part == 0 ? above : below).divide(g).longValueExact();
    }

    private static long part(long above, long below, long part) {
        return part(BigInteger.valueOf(above), BigInteger.valueOf(below), part);
    }

    long run(long top, long front, long rain, long wind, long p, long part) {
        if (!in(p, 0, 20) || !in(part, 0, 1) || pace(top, front, rain, wind) == OUTSIDE) {
            return OUTSIDE;
        }
        long q = p == 0 ? pace(top, front, rain, wind) : p;
        return part(rain * top + rain * front * Math.abs(q - wind), q, part);
    }

    long pace(long top, long front, long rain, long wind) {
        if (!in(top, 1, 99) || !in(front, 1, 99) || !in(rain, 1, 99) || !in(wind, 0, 20)) {
            return OUTSIDE;
        }
        // 232792560 is divided by each of 1 .. 20.
        long best = 20;
        for (long p = 20; p >= 1; p--) {
            long is = 232792560L / p * (top + front * Math.abs(p - wind));
            if (is <= 232792560L / best * (top + front * Math.abs(best - wind))) {
                best = p;
            }
        }
        return best;
    }

    /** By ten to the tenth; the minutes waited come behind. */
    private static BigInteger[] doorBy(long s, long b, long g, long n) {
        BigInteger one = BigInteger.TEN.pow(20);
        BigInteger now = one.multiply(BigInteger.valueOf(g));
        if (n == 0) {
            return new BigInteger[] {now, BigInteger.ZERO};
        }
        BigInteger[] on = doorBy(s, b, g, n - 1);
        BigInteger later = one.add(now.multiply(BigInteger.valueOf(s * b)).divide(BigInteger.valueOf(100)))
                .add(on[0].multiply(BigInteger.valueOf(10 - s)).divide(BigInteger.TEN));
        return later.compareTo(now) < 0 ? new BigInteger[] {later, on[1].add(BigInteger.ONE)}
                : new BigInteger[] {now, BigInteger.ZERO};
    }

    long door(long s, long b, long g, long n, long part) {
        if (!in(s, 0, 10) || !in(b, 0, 10) || !in(g, 0, 999) || !in(n, 0, 8) || !in(part, 0, 2)) {
            return OUTSIDE;
        }
        BigInteger[] by = doorBy(s, b, g, n);
        return part == 2 ? by[1].longValueExact() : part(by[0], BigInteger.TEN.pow(20), part);
    }

    long left(long n, long l, long k, long m, long part) {
        if (!in(n, 1, 9) || !in(l, 0, 10) || !in(k, 0, 10) || !in(m, 0, n) || !in(part, 0, 1)) {
            return OUTSIDE;
        }
        BigInteger above = BigInteger.ZERO;
        for (int set = 0; set < 1 << n; set++) {
            int lost = Integer.bitCount(set);
            if (lost >= m) {
                above = above.add(BigInteger.valueOf(l * (10 - k)).pow(lost)
                        .multiply(BigInteger.valueOf(100 - l * (10 - k)).pow((int) n - lost)));
            }
        }
        return part(above, BigInteger.valueOf(100).pow((int) n), part);
    }

    private static long income(World over, long place, long price) {
        long sum = 0;
        for (Person p : over.people.values()) {
            int first = p.placeByTick.indexOf((int) place);
            if (p.size == 0 && first >= 0) {
                int behind = p.wetByTick.subList(first + 1, 60).stream().mapToInt(i -> i).sum();
                sum += behind >= price ? price : 0;
            }
        }
        return sum;
    }

    long seller(long place, long price) {
        if (!in(place, 0, world.l - 1)) {
            return UNKNOWN;
        }
        return in(price, 1, 99) ? income(world.whole(), place, price) : OUTSIDE;
    }

    long where(long what) {
        if (!in(what, 0, 2)) {
            return OUTSIDE;
        }
        World over = world.whole();
        long[] best = {0, 1, 0};
        for (int x = 0; x < world.l; x++) {
            for (int price = 1; price < 100; price++) {
                long in = income(over, x, price);
                if (in > best[2]) {
                    best = new long[] {x, price, in};
                }
            }
        }
        return best[(int) what];
    }

    long count(long what) {
        long on = world.people.values().stream().filter(Person::on).count();
        int pokes = world.people.values().stream().mapToInt(p -> p.pokes).sum();
        long[] all = {world.w, world.l, world.people.size(), on, world.ticks, text.length(), row.size(), pokes / 2};
        return in(what, 0, 7) ? all[(int) what] : OUTSIDE;
    }
}
