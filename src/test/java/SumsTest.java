/** Promises 19 to 24: two, fair, run, pace, door, left. */
public final class SumsTest {
    private static final int OUTSIDE = UmbrellaStreet.OUTSIDE;

    public static void main(String[] args) {
        two();
        fair();
        run();
        pace();
        door();
        left();
        Due.end();
    }

    private static void two() {
        UmbrellaStreet x = new UmbrellaStreet();
        Due.is("held in the middle, left", x.two(5, 7, 3, 0, 0), 2);
        Due.is("held in the middle, right", x.two(5, 7, 3, 0, 1), 0);
        Due.is("held right, left", x.two(5, 7, 8, 2, 0), 4);
        Due.is("held right, right", x.two(5, 7, 8, 2, 1), 1);
        Due.is("held left, left", x.two(5, 7, 8, -2, 0), 0);
        Due.is("held left, right", x.two(5, 7, 8, -2, 1), 5);
        Due.is("beyond the right one, left", x.two(1, 1, 19, 20, 0), 1);
        Due.is("beyond the right one, right", x.two(1, 1, 19, 20, 1), 19);
        Due.is("at its edge", x.two(2, 1, 19, 20, 1), 18);
        Due.is("beyond the left one", x.two(1, 19, 1, -20, 0), 19);
        Due.is("inside of the right one", x.two(2, 3, 19, 10, 1), 15);
        Due.is("inside of the left one", x.two(2, 19, 3, -10, 0), 15);
        Due.is("wide enough for both", x.two(9, 9, 9, 0, 0) + x.two(9, 9, 9, 0, 1), 0);
        int[][] wrong = {{0, 1, 1, 0, 0}, {10, 1, 1, 0, 0}, {1, 0, 1, 0, 0}, {1, 20, 1, 0, 0}, {1, 1, 0, 0, 0},
            {1, 1, 20, 0, 0}, {1, 1, 1, -21, 0}, {1, 1, 1, 21, 0}, {1, 1, 1, 0, -1}, {1, 1, 1, 0, 2}};
        for (int[] w : wrong) {
            Due.is("two refused", x.two(w[0], w[1], w[2], w[3], w[4]), OUTSIDE);
        }
    }

    private static void fair() {
        UmbrellaStreet x = new UmbrellaStreet();
        Due.is("like ones", x.fair(3, 5, 5), 100);
        Due.is("wide enough", x.fair(9, 4, 4), 100);
        Due.is("the right one is greater", x.fair(5, 4, 6), 101);
        Due.is("the left one is greater", x.fair(5, 6, 4), 99);
        // 0 .. 19 and -1 .. 0: of 18 over 20 the left one, all of 1, has 1 bare at d 9: d 8 leaves 2 of 19.
        Due.is("a narrow one at the left", x.fair(9, 1, 19), 108);
        Due.is("a narrow one at the right", x.fair(9, 19, 1), 92);
        // Of d -1, 0, 1 that cover both alike the one without sign.
        Due.is("least without sign", x.fair(9, 8, 8), 100);
        Due.is("a small one for a wide one", x.fair(1, 19, 1), 100);
        int[][] wrong = {{0, 1, 1}, {10, 1, 1}, {1, 0, 1}, {1, 20, 1}, {1, 1, 0}, {1, 1, 20}};
        for (int[] w : wrong) {
            Due.is("fair refused", x.fair(w[0], w[1], w[2]), OUTSIDE);
        }
    }

    private static void run() {
        UmbrellaStreet x = new UmbrellaStreet();
        Due.is("at pace 4 against 10, above", x.run(3, 2, 5, 10, 4, 0), 75);
        Due.is("at pace 4 against 10, below", x.run(3, 2, 5, 10, 4, 1), 4);
        Due.is("in lowest terms, above", x.run(4, 2, 5, 0, 10, 0), 12);
        Due.is("in lowest terms, below", x.run(4, 2, 5, 0, 10, 1), 1);
        Due.is("as fast as the wind", x.run(99, 99, 99, 20, 20, 0), 9801);
        Due.is("of 20", x.run(99, 99, 99, 20, 20, 1), 20);
        Due.is("at best pace, above", x.run(10, 20, 5, 7, 0, 0), 50);
        Due.is("at best pace, below", x.run(10, 20, 5, 7, 0, 1), 7);
        int[][] wrong = {{0, 1, 1, 0, 1, 0}, {100, 1, 1, 0, 1, 0}, {1, 0, 1, 0, 1, 0}, {1, 100, 1, 0, 1, 0},
            {1, 1, 0, 0, 1, 0}, {1, 1, 100, 0, 1, 0}, {1, 1, 1, -1, 1, 0}, {1, 1, 1, 21, 1, 0},
            {1, 1, 1, 0, -1, 0}, {1, 1, 1, 0, 21, 0}, {1, 1, 1, 0, 1, -1}, {1, 1, 1, 0, 1, 2}};
        for (int[] w : wrong) {
            Due.is("run refused", x.run(w[0], w[1], w[2], w[3], w[4], w[5]), OUTSIDE);
        }
    }

    private static void pace() {
        UmbrellaStreet x = new UmbrellaStreet();
        Due.is("no wind: as fast as one can", x.pace(1, 99, 1, 0), 20);
        Due.is("with the wind", x.pace(10, 20, 5, 7), 7);
        Due.is("as slow as the wind", x.pace(1, 99, 1, 2), 2);
        Due.is("as slow as one can", x.pace(1, 99, 1, 1), 1);
        Due.is("a great top: faster than the wind", x.pace(99, 1, 1, 3), 20);
        // T and F W are like: beyond the wind all paces are as good, the least is the wind's.
        Due.is("of several the least", x.pace(20, 5, 9, 4), 4);
        Due.is("just beyond", x.pace(21, 5, 9, 4), 20);
        int[][] wrong = {{0, 1, 1, 0}, {100, 1, 1, 0}, {1, 0, 1, 0}, {1, 100, 1, 0},
            {1, 1, 0, 0}, {1, 1, 100, 0}, {1, 1, 1, -1}, {1, 1, 1, 21}};
        for (int[] w : wrong) {
            Due.is("pace refused", x.pace(w[0], w[1], w[2], w[3]), OUTSIDE);
        }
    }

    private static void doorIs(int s, int b, int g, int n, long above, long below, long waits) {
        UmbrellaStreet x = new UmbrellaStreet();
        String call = "door " + s + " " + b + " " + g + " " + n + ", ";
        Due.is(call + "above", x.door(s, b, g, n, 0), above);
        Due.is(call + "below", x.door(s, b, g, n, 1), below);
        Due.is(call + "waits", x.door(s, b, g, n, 2), waits);
    }

    private static void door() {
        doorIs(5, 5, 10, 0, 10, 1, 0);
        doorIs(5, 0, 10, 1, 6, 1, 1);
        // 1 + 1/2 (1/2 10) + 1/2 10 = 17/2; behind it 1 + 5/2 + 17/4 = 31/4.
        doorIs(5, 5, 10, 1, 17, 2, 1);
        doorIs(5, 5, 10, 2, 31, 4, 2);
        doorIs(0, 0, 999, 8, 999, 1, 0);
        // 1 + 9/10 10 is as good as 10: one goes.
        doorIs(1, 0, 10, 8, 10, 1, 0);
        doorIs(1, 0, 11, 1, 109, 10, 1);
        doorIs(5, 10, 999, 8, 999, 1, 0);
        doorIs(10, 0, 0, 8, 0, 1, 0);
        doorIs(10, 0, 1, 8, 1, 1, 0);
        doorIs(10, 0, 2, 1, 1, 1, 1);
        doorIs(10, 1, 999, 1, 1009, 10, 1);
        UmbrellaStreet x = new UmbrellaStreet();
        int[][] wrong = {{-1, 0, 0, 0, 0}, {11, 0, 0, 0, 0}, {0, -1, 0, 0, 0}, {0, 11, 0, 0, 0}, {0, 0, -1, 0, 0},
            {0, 0, 1000, 0, 0}, {0, 0, 0, -1, 0}, {0, 0, 0, 9, 0}, {0, 0, 0, 0, -1}, {0, 0, 0, 0, 3}};
        for (int[] w : wrong) {
            Due.is("door refused", x.door(w[0], w[1], w[2], w[3], w[4]), OUTSIDE);
        }
    }

    private static void leftIs(int n, int l, int k, int m, long above, long below) {
        UmbrellaStreet x = new UmbrellaStreet();
        String call = "left " + n + " " + l + " " + k + " " + m + ", ";
        Due.is(call + "above", x.left(n, l, k, m, 0), above);
        Due.is(call + "below", x.left(n, l, k, m, 1), below);
    }

    private static void left() {
        leftIs(1, 5, 5, 1, 1, 4);
        leftIs(1, 5, 5, 0, 1, 1);
        leftIs(2, 5, 0, 2, 1, 4);
        leftIs(2, 5, 0, 1, 3, 4);
        leftIs(3, 10, 9, 1, 271, 1000);
        leftIs(9, 10, 0, 9, 1, 1);
        leftIs(9, 10, 10, 1, 0, 1);
        leftIs(9, 0, 0, 1, 0, 1);
        leftIs(9, 0, 0, 0, 1, 1);
        leftIs(9, 1, 9, 9, 1, 1_000_000_000_000_000_000L);
        leftIs(9, 9, 9, 9, 387420489L, 1_000_000_000_000_000_000L);
        UmbrellaStreet x = new UmbrellaStreet();
        int[][] wrong = {{0, 0, 0, 0, 0}, {10, 0, 0, 0, 0}, {1, -1, 0, 0, 0}, {1, 11, 0, 0, 0}, {1, 0, -1, 0, 0},
            {1, 0, 11, 0, 0}, {1, 0, 0, -1, 0}, {1, 0, 0, 2, 0}, {1, 0, 0, 0, -1}, {1, 0, 0, 0, 2}};
        for (int[] w : wrong) {
            Due.is("left refused", x.left(w[0], w[1], w[2], w[3], w[4]), OUTSIDE);
        }
    }
}
