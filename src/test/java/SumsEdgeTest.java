/** The edges of promises 19 to 24: two under one, fair, run, pace, door, left; and all of their small numbers. */
public final class SumsEdgeTest {
    private static final int OUTSIDE = UmbrellaStreet.OUTSIDE;
    private static final int[] FAR = {Integer.MIN_VALUE, Integer.MIN_VALUE + 1, Integer.MAX_VALUE - 1, Integer.MAX_VALUE};

    private static UmbrellaStreet x = new UmbrellaStreet();
    private static final Model MODEL = new Model();
    private static int calls;

    public static void main(String[] args) {
        boundsOfEach();
        twoAtTheEdges();
        twoByPieces();
        fairOnes();
        fairByPieces();
        runAtTheEnds();
        runByAll();
        paceAtTheEnds();
        doorAtTheEnds();
        doorAsGood();
        doorByAll();
        leftAtTheEnds();
        leftByAll();
        Due.end();
    }

    /** An object that is not yet used for 512 calls. */
    private static UmbrellaStreet any() {
        calls++;
        if (calls % 500 == 0) {
            x = new UmbrellaStreet();
        }
        return x;
    }

    private static long call(String name, int[] a) {
        switch (name) {
            case "two":
                return any().two(a[0], a[1], a[2], a[3], a[4]);
            case "fair":
                return any().fair(a[0], a[1], a[2]);
            case "run":
                return any().run(a[0], a[1], a[2], a[3], a[4], a[5]);
            case "pace":
                return any().pace(a[0], a[1], a[2], a[3]);
            case "door":
                return any().door(a[0], a[1], a[2], a[3], a[4]);
            default:
                return any().left(a[0], a[1], a[2], a[3], a[4]);
        }
    }

    /** Each number of a call has its least and its greatest, whatever the others are; those beside are refused. */
    private static void bounds(String name, int[] least, int[] most) {
        for (int ends = 0; ends < 1 << least.length; ends++) {
            int[] a = new int[least.length];
            for (int i = 0; i < a.length; i++) {
                a[i] = (ends >> i & 1) == 0 ? least[i] : most[i];
            }
            Due.is(name + " is answered at its ends, " + ends, call(name, a) >= 0 ? 1 : 0, 1);
            for (int i = 0; i < a.length; i++) {
                int was = a[i];
                for (int wrong : new int[] {least[i] - 1, least[i] - 2, most[i] + 1, most[i] + 2, FAR[0], FAR[1], FAR[2], FAR[3]}) {
                    a[i] = wrong;
                    Due.is(name + ", number " + i + " is " + wrong + ", " + ends, call(name, a), OUTSIDE);
                }
                a[i] = was;
            }
        }
    }

    private static void boundsOfEach() {
        bounds("two", new int[] {1, 1, 1, -20, 0}, new int[] {9, 19, 19, 20, 1});
        bounds("fair", new int[] {1, 1, 1}, new int[] {9, 19, 19});
        bounds("run", new int[] {1, 1, 1, 0, 0, 0}, new int[] {99, 99, 99, 20, 20, 1});
        bounds("pace", new int[] {1, 1, 1, 0}, new int[] {99, 99, 99, 20});
        bounds("door", new int[] {0, 0, 0, 0, 0}, new int[] {10, 10, 999, 8, 2});
        for (int n = 1; n <= 9; n++) {
            for (int m = -1; m <= n + 1; m++) {
                boolean isIn = m >= 0 && m <= n;
                Due.is("left " + n + ", m " + m, call("left", new int[] {n, 5, 5, m, 0}) >= 0 ? 1 : 0, isIn ? 1 : 0);
                Due.is("left " + n + ", m " + m + ": chance", isIn ? 0 : call("left", new int[] {n, 0, 0, m, 1}), isIn ? 0 : OUTSIDE);
            }
        }
        bounds("left", new int[] {9, 0, 0, 0, 0}, new int[] {9, 10, 10, 9, 1}, 0);
        bounds("left", new int[] {1, 0, 0, 0, 0}, new int[] {1, 10, 10, 1, 1}, 0);
        for (int n : new int[] {-1, 0, 10, 11, FAR[0], FAR[3]}) {
            Due.is("left " + n, any().left(n, 0, 0, 0, 0), OUTSIDE);
        }
    }

    /** As bounds, but for one number that has but one value here. */
    private static void bounds(String name, int[] least, int[] most, int but) {
        int[] one = least.clone();
        for (int i = 0; i < one.length; i++) {
            if (i != but) {
                for (int wrong : new int[] {least[i] - 1, most[i] + 1, FAR[0], FAR[3]}) {
                    one[i] = wrong;
                    Due.is(name + ", number " + i + " is " + wrong, call(name, one), OUTSIDE);
                }
                one[i] = most[i];
                Due.is(name + ", number " + i + " is " + most[i], call(name, one) >= 0 ? 1 : 0, 1);
                one[i] = least[i];
                Due.is(name + ", number " + i + " is " + least[i], call(name, one) >= 0 ? 1 : 0, 1);
            }
        }
    }

    // ---- two under one

    private static void twoAtTheEdges() {
        int[][] due = {
            // s, a, b, d, left, right: its edge just where they meet.
            {3, 5, 7, 3, 5, 1}, {3, 5, 7, -3, 0, 7}, {3, 6, 7, -3, 0, 7}, {3, 7, 7, -3, 1, 7},
            // Its edges just at those of both, and one less.
            {5, 5, 5, 0, 0, 0}, {5, 6, 5, 0, 1, 0}, {5, 5, 6, 0, 0, 1}, {6, 5, 5, 1, 0, 0}, {6, 5, 5, 2, 1, 0}, {6, 5, 5, -2, 0, 1},
            // As far as can be: just off, and just over.
            {1, 19, 19, 20, 19, 19}, {1, 19, 19, -20, 19, 19}, {2, 19, 19, 20, 19, 18}, {2, 19, 19, -20, 18, 19},
            {9, 19, 19, 20, 19, 11}, {9, 19, 19, -20, 11, 19}, {9, 19, 19, 0, 10, 10}, {1, 1, 1, 0, 0, 0}, {1, 1, 1, 1, 1, 0}};
        for (int[] e : due) {
            Due.is("left of two " + e[0] + " " + e[1] + " " + e[2] + " " + e[3], any().two(e[0], e[1], e[2], e[3], 0), e[4]);
            Due.is("right of two " + e[0] + " " + e[1] + " " + e[2] + " " + e[3], any().two(e[0], e[1], e[2], e[3], 1), e[5]);
        }
    }

    /** How many of the pieces from .. to - 1, each of width 1, are not under one held at d. */
    private static int bare(int from, int to, int s, int d) {
        int bare = 0;
        for (int piece = from; piece < to; piece++) {
            bare += piece >= d - s && piece < d + s ? 0 : 1;
        }
        return bare;
    }

    private static void twoByPieces() {
        for (int s = 1; s <= 9; s++) {
            for (int wide = 1; wide <= 19; wide++) {
                for (int d = -20; d <= 20; d++) {
                    String call = "two " + s + ", " + wide + " wide, " + d;
                    Due.is(call + ", left", any().two(s, wide, 20 - wide, d, 0), bare(-wide, 0, s, d));
                    Due.is(call + ", right", any().two(s, 20 - wide, wide, d, 1), bare(0, wide, s, d));
                }
            }
        }
    }

    private static void fairOnes() {
        int[][] due = {{5, 7, 2, -2}, {5, 2, 7, 2}, {9, 1, 1, 0}, {1, 1, 1, 0}, {9, 19, 19, 0}, {9, 1, 19, 8}, {9, 19, 1, -8},
            {9, 9, 9, 0}, {9, 9, 10, 0}, {9, 10, 9, 0}, {9, 8, 10, 1}, {5, 4, 6, 1}, {5, 6, 4, -1}, {1, 1, 2, 0}};
        for (int[] e : due) {
            Due.is("fair " + e[0] + " " + e[1] + " " + e[2], any().fair(e[0], e[1], e[2]), e[3] + 100);
        }
    }

    private static void fairByPieces() {
        int[] bySign = new int[41];
        for (int i = 0; i < bySign.length; i++) {
            bySign[i] = i % 2 == 0 ? i / 2 : -(i + 1) / 2;
        }
        for (int s = 1; s <= 9; s++) {
            for (int a = 1; a <= 19; a++) {
                for (int b = 1; b <= 19; b++) {
                    int best = 0;
                    int least = Integer.MAX_VALUE;
                    for (int d : bySign) {
                        int part = Math.max(bare(-a, 0, s, d) * b, bare(0, b, s, d) * a);
                        if (part < least) {
                            least = part;
                            best = d;
                        }
                    }
                    Due.is("fair " + s + " " + a + " " + b, any().fair(s, a, b), best + 100);
                }
            }
        }
    }

    // ---- run or walk

    private static void runIs(int[] a, long above, long below) {
        String call = "run " + a[0] + " " + a[1] + " " + a[2] + " " + a[3] + " " + a[4];
        Due.is(call + ", above", any().run(a[0], a[1], a[2], a[3], a[4], 0), above);
        Due.is(call + ", below", any().run(a[0], a[1], a[2], a[3], a[4], 1), below);
    }

    private static void runAtTheEnds() {
        runIs(new int[] {99, 99, 99, 20, 1}, 99 * 99 * 20, 1);
        runIs(new int[] {99, 99, 99, 0, 20}, 99 * 99 * 21, 20);
        runIs(new int[] {1, 1, 1, 0, 1}, 2, 1);
        runIs(new int[] {1, 1, 1, 0, 20}, 21, 20);
        runIs(new int[] {1, 1, 1, 20, 20}, 1, 20);
        runIs(new int[] {20, 1, 1, 20, 20}, 1, 1);
        runIs(new int[] {10, 1, 1, 20, 20}, 1, 2);
        runIs(new int[] {1, 1, 1, 20, 1}, 20, 1);
        // By p 0 at BEST PACE: the wind's, and the greatest.
        runIs(new int[] {1, 1, 1, 20, 0}, 1, 20);
        runIs(new int[] {99, 99, 99, 0, 0}, 99 * 99 * 21, 20);
        runIs(new int[] {1, 99, 1, 1, 0}, 1, 1);
        runIs(new int[] {3, 99, 7, 9, 0}, 7, 3);
    }

    private static void runByAll() {
        int[] some = {1, 2, 3, 50, 98, 99};
        for (int top : some) {
            for (int front : some) {
                for (int wind = 0; wind <= 20; wind++) {
                    int rain = some[(top + front + wind) % some.length];
                    Due.is("pace " + top + " " + front + " " + wind, any().pace(top, front, rain, wind), MODEL.pace(top, front, rain, wind));
                    for (int p = 0; p <= 20; p++) {
                        for (int part = 0; part < 2; part++) {
                            Due.is("run " + top + " " + front + " " + rain + " " + wind + " " + p + " " + part,
                                    any().run(top, front, rain, wind, p, part), MODEL.run(top, front, rain, wind, p, part));
                        }
                    }
                }
            }
        }
    }

    private static void paceAtTheEnds() {
        for (int wind = 1; wind <= 20; wind++) {
            // T less than F times W: as fast as the wind. As much: the same. More: as fast as one can.
            Due.is("less, wind " + wind, any().pace(4 * wind - 1, 4, 3, wind), wind);
            Due.is("as much, wind " + wind, any().pace(4 * wind, 4, 3, wind), wind);
            Due.is("more, wind " + wind, any().pace(4 * wind + 1, 4, 3, wind), 20);
            Due.is("the RAIN says nothing, wind " + wind, any().pace(4 * wind - 1, 4, 99, wind), wind);
        }
        Due.is("no wind", any().pace(1, 99, 99, 0), 20);
        Due.is("no wind, a great top", any().pace(99, 1, 1, 0), 20);
    }

    // ---- a door

    private static void doorIs(int[] a, long above, long below, long waits) {
        String call = "door " + a[0] + " " + a[1] + " " + a[2] + " " + a[3];
        Due.is(call + ", above", any().door(a[0], a[1], a[2], a[3], 0), above);
        Due.is(call + ", below", any().door(a[0], a[1], a[2], a[3], 1), below);
        Due.is(call + ", waits", any().door(a[0], a[1], a[2], a[3], 2), waits);
    }

    private static void doorAtTheEnds() {
        for (int g : new int[] {0, 1, 2, 500, 998, 999}) {
            // No MINUTE: one goes. It never stops, or surely begins anew: one goes as well.
            doorIs(new int[] {10, 0, g, 0}, g, 1, 0);
            doorIs(new int[] {0, 0, g, 8}, g, 1, 0);
            doorIs(new int[] {10, 10, g, 8}, g, 1, 0);
            // It surely stops and does not begin anew: 1 for the first MINUTE, if that is less than going.
            doorIs(new int[] {10, 0, g, 1}, g > 1 ? 1 : g, 1, g > 1 ? 1 : 0);
        }
        doorIs(new int[] {0, 10, 999, 8}, 999, 1, 0);
        doorIs(new int[] {10, 5, 999, 1}, 1001, 2, 1);
        doorIs(new int[] {1, 1, 999, 1}, 999 * 91 + 100, 100, 1);
        // As long as it does not stop one waits all MINUTES that there are.
        for (int n = 0; n <= 8; n++) {
            Due.is("waits of " + n, any().door(5, 5, 999, n, 2), n);
        }
    }

    private static void doorAsGood() {
        // Waiting costs 1 and saves g s (10 - b) / 100: one goes as soon as that is as good.
        for (int s = 1; s <= 10; s++) {
            for (int b = 0; b < 10; b++) {
                int saves = s * (10 - b);
                for (int g = 0; g < 1000; g += g < 110 ? 1 : 89) {
                    Due.is("waits one MINUTE, " + s + " " + b + " " + g, any().door(s, b, g, 1, 2), g * saves > 100 ? 1 : 0);
                }
            }
        }
        doorIs(new int[] {1, 0, 10, 8}, 10, 1, 0);
        doorIs(new int[] {1, 0, 11, 1}, 109, 10, 1);
        doorIs(new int[] {2, 5, 10, 8}, 10, 1, 0);
        doorIs(new int[] {10, 0, 1, 8}, 1, 1, 0);
        doorIs(new int[] {5, 5, 4, 8}, 4, 1, 0);
        doorIs(new int[] {5, 5, 5, 1}, 19, 4, 1);
    }

    private static void doorByAll() {
        int[] some = {0, 1, 2, 3, 10, 11, 99, 100, 101, 998, 999};
        for (int s = 0; s <= 10; s++) {
            for (int b = 0; b <= 10; b++) {
                for (int n = 0; n <= 8; n++) {
                    for (int part = 0; part < 3; part++) {
                        int g = some[(3 * s + 5 * b + n) % some.length];
                        Due.is("door " + s + " " + b + " " + g + " " + n + " " + part, any().door(s, b, g, n, part), MODEL.door(s, b, g, n, part));
                        Due.is("door " + s + " " + b + " 997 " + n + " " + part, any().door(s, b, 997, n, part), MODEL.door(s, b, 997, n, part));
                    }
                }
            }
        }
    }

    // ---- umbrellas left

    private static void leftIs(int[] a, long above, long below) {
        String call = "left " + a[0] + " " + a[1] + " " + a[2] + " " + a[3];
        Due.is(call + ", above", any().left(a[0], a[1], a[2], a[3], 0), above);
        Due.is(call + ", below", any().left(a[0], a[1], a[2], a[3], 1), below);
    }

    private static void leftAtTheEnds() {
        for (int n = 1; n <= 9; n++) {
            // 0 at least are lost surely, whatever l and k are.
            leftIs(new int[] {n, 0, 0, 0}, 1, 1);
            leftIs(new int[] {n, 7, 3, 0}, 1, 1);
            leftIs(new int[] {n, 10, 10, 0}, 1, 1);
            // None is left, or each one comes back: none is lost. Each one is left and none comes back: all are.
            leftIs(new int[] {n, 0, 0, 1}, 0, 1);
            leftIs(new int[] {n, 10, 10, 1}, 0, 1);
            leftIs(new int[] {n, 10, 0, n}, 1, 1);
            // All of n by 1 of 2 each; 1 at least.
            long all = 1L << n;
            leftIs(new int[] {n, 5, 0, n}, 1, all);
            leftIs(new int[] {n, 10, 5, n}, 1, all);
            leftIs(new int[] {n, 5, 0, 1}, all - 1, all);
            leftIs(new int[] {n, 1, 9, n}, 1, power(100, n));
            leftIs(new int[] {n, 9, 1, n}, power(81, n), power(100, n));
            leftIs(new int[] {n, 1, 9, 1}, power(100, n) - power(99, n), power(100, n));
        }
    }

    private static long power(long base, int times) {
        return times == 0 ? 1 : base * power(base, times - 1);
    }

    private static void leftByAll() {
        for (int n = 1; n <= 9; n += 2) {
            for (int l = 0; l <= 10; l++) {
                for (int k = 0; k <= 10; k++) {
                    int m = (l + 2 * k) % (n + 1);
                    for (int part = 0; part < 2; part++) {
                        Due.is("left " + n + " " + l + " " + k + " " + m + " " + part, any().left(n, l, k, m, part), MODEL.left(n, l, k, m, part));
                    }
                }
            }
        }
    }
}
