import java.util.ArrayList;
import java.util.List;
import java.util.function.ToLongFunction;

/**
 * Refused calls: the answer is the first of UNKNOWN, OUTSIDE, NOT, FULL that fits, and nothing changes. Each call is
 * made on an object of its own; all that can be read from it, then and later, is as on one without that call. So it is
 * with calls that only ask.
 */
public final class RefusedTest {
    private static final int UNKNOWN = UmbrellaStreet.UNKNOWN;
    private static final int OUTSIDE = UmbrellaStreet.OUTSIDE;
    private static final int NOT = UmbrellaStreet.NOT;
    private static final int FULL = UmbrellaStreet.FULL;
    private static final int LEAST = Integer.MIN_VALUE;
    private static final int MOST = Integer.MAX_VALUE;

    private static String scene = "";
    private static List<Long> asItWas = new ArrayList<>();

    public static void main(String[] args) {
        for (String each : new String[] {"new", "going", "full"}) {
            scene = each;
            asItWas = picture(object());
            ofTexts();
            ofTheStreet();
            ofTicks();
            ofSizes();
            ofTheStop();
            ofSums();
            ofSellers();
            ofAsking();
        }
        Due.end();
    }

    /** A new object; one halfway, with a text that can be done; one with all that it can have, and a text with a FAULT. */
    private static UmbrellaStreet object() {
        UmbrellaStreet x = new UmbrellaStreet();
        if (scene.equals("going")) {
            Due.tell(x, "street 3 6;awning 2 1;rain 0 59 9;walker 0 0 0 0 5 1 2;walker 1 0 1 0 5 2 1;walker 3 1 0 1 6 0 0");
            x.go(3);
            x.keep(1);
            x.go(2);
            x.stand(5, 2, 4);
            x.stand(7, 1, 6);
            Due.put(x, "street 3 4;walker 2 2 0 0 5 0 0");
        }
        if (scene.equals("full")) {
            Due.tell(x, "street 4 12;rain 0 59 99;walker 0 0 0 0 5 1 2;walker 1 0 1 0 5 2 1;walker 2 1 0 1 6 0 0");
            Due.tell(x, "walker 3 1 1 0 5 1 2;walker 4 3 1 20 5 2 1;walker 5 3 0 1 6 0 0");
            x.go(30);
            x.keep(0);
            x.go(29);
            x.keep(1);
            x.go(1);
            for (int i = 0; i < 8; i++) {
                x.stand(2 * i + 1, i % 4, 9 - i);
            }
            Due.put(x, "gone 1;gone 6" + " ".repeat(187));
        }
        return x;
    }

    private static List<Long> picture(UmbrellaStreet x) {
        List<Long> all = new ArrayList<>();
        for (int cell = 0; cell < 48; cell++) {
            all.add((long) x.cell(cell, 0));
        }
        shortPicture(x, all);
        all.add((long) x.fault());
        all.add((long) x.done());
        for (int one = 0; one < 9; one++) {
            all.add((long) x.wet(one));
        }
        for (int what = 0; what < 3; what++) {
            all.add((long) x.driest(what));
            all.add((long) x.where(what));
            all.add((long) x.rests(3, 1, what));
            all.add((long) x.common(3, 1, what));
        }
        all.add((long) x.pays(0, 1, 3, 1));
        all.add((long) x.go(1));
        shortPicture(x, all);
        for (int k = 0; k < 2; k++) {
            all.add((long) x.back(k));
            shortPicture(x, all);
        }
        all.add((long) x.shower());
        all.add((long) x.go(3));
        shortPicture(x, all);
        all.add((long) x.write(0x2020202020202020L, 1));
        all.add((long) x.stand(18, 3, 0));
        all.add((long) x.wet(x.count(6) - 1));
        all.add((long) x.erase());
        all.add((long) x.bus());
        return all;
    }

    private static void shortPicture(UmbrellaStreet x, List<Long> all) {
        for (int k = 0; k < 6; k++) {
            for (int what = 0; what < 5; what++) {
                all.add((long) x.walker(k, what));
            }
        }
        for (int what = 0; what < 8; what++) {
            all.add((long) x.count(what));
        }
    }

    private static void is(String call, ToLongFunction<UmbrellaStreet> made, long want) {
        UmbrellaStreet x = object();
        Due.is(scene + ": " + call, made.applyAsLong(x), want);
        Due.is(scene + ": " + call + ", again", made.applyAsLong(x), want);
        Due.is(scene + ": nothing changes by " + call, picture(x).equals(asItWas) ? 1 : 0, 1);
    }

    private static boolean isTold(int walker) {
        return scene.equals("full") || scene.equals("going") && (walker == 0 || walker == 1 || walker == 3);
    }

    private static void ofTexts() {
        for (int n : new int[] {LEAST, -1, 0, 9, MOST}) {
            is("write of " + n, x -> x.write(-1L, n), OUTSIDE);
        }
        if (scene.equals("full")) {
            is("write of 1", x -> x.write(' ', 1), FULL);
            is("write of 8", x -> x.write(-1L, 8), FULL);
        }
        if (!scene.equals("going")) {
            is("shower", x -> x.shower(), NOT);
        }
        // Reading changes nothing, either.
        int fault = scene.equals("new") ? 0 : scene.equals("full") ? 12 : UmbrellaStreet.NONE;
        is("fault", x -> x.fault(), fault);
    }

    private static void ofTheStreet() {
        int lanes = scene.equals("new") ? 2 : scene.equals("going") ? 3 : 4;
        int places = scene.equals("full") ? 12 : 6;
        for (int what : new int[] {LEAST, -1, 0, 1, 2, MOST}) {
            for (int cell : new int[] {LEAST, -4, -1, 4 * places, 4 * places + lanes - 1, 48, MOST}) {
                is("cell " + cell + " " + what, x -> x.cell(cell, what), UNKNOWN);
            }
            if (lanes < 4) {
                is("cell beside the last lane, " + what, x -> x.cell(lanes, what), UNKNOWN);
            }
            if (what < 0 || what > 1) {
                is("cell 0 " + what, x -> x.cell(0, what), OUTSIDE);
                is("the last cell " + what, x -> x.cell(4 * (places - 1) + lanes - 1, what), OUTSIDE);
            }
        }
        for (int what : new int[] {LEAST, -1, 0, 4, 5, MOST}) {
            for (int k : new int[] {LEAST, -1, 0, 1, 2, 3, 4, 5, 6, MOST}) {
                boolean isThere = k >= 0 && k < 6 && isTold(k);
                if (!isThere || what < 0 || what > 4) {
                    is("walker " + k + " " + what, x -> x.walker(k, what), isThere ? OUTSIDE : UNKNOWN);
                }
            }
        }
        for (int what : new int[] {LEAST, -1, 8, MOST}) {
            is("count " + what, x -> x.count(what), OUTSIDE);
        }
    }

    private static void ofTicks() {
        for (int n : new int[] {LEAST, -1, 0, 61, MOST}) {
            is("go " + n, x -> x.go(n), OUTSIDE);
        }
        for (int k : new int[] {LEAST, -1, 2, MOST}) {
            is("keep " + k, x -> x.keep(k), UNKNOWN);
            is("back " + k, x -> x.back(k), UNKNOWN);
        }
        if (!scene.equals("full")) {
            is("back 0", x -> x.back(0), NOT);
        }
        if (scene.equals("new")) {
            is("back 1", x -> x.back(1), NOT);
        }
    }

    private static void ofSizes() {
        int[][] wrong = {{3, 0, 0}, {0, -1, 0}, {0, 100, 0}, {0, 0, -1}, {0, 0, 100}, {-1, LEAST, MOST}, {0, 0, 0}};
        for (int[] w : wrong) {
            for (int k : new int[] {LEAST, -1, 0, 1, 2, 3, 4, 5, 6, MOST}) {
                boolean isThere = k >= 0 && k < 6 && isTold(k);
                boolean isIn = w[0] == 0 && w[1] == 0 && w[2] == 0;
                if (!isThere || !isIn || scene.equals("full")) {
                    is("pays " + k + " " + w[0] + " " + w[1] + " " + w[2], x -> x.pays(k, w[0], w[1], w[2]),
                            !isThere ? UNKNOWN : !isIn ? OUTSIDE : NOT);
                }
            }
        }
        int[][] outside = {{-1, 0, 0}, {100, 0, 0}, {0, -1, 0}, {0, 100, 0}, {0, 0, -1}, {0, 0, 2}, {LEAST, MOST, LEAST}};
        for (int[] w : outside) {
            is("rests " + w[0] + " " + w[1] + " " + w[2], x -> x.rests(w[0], w[1], w[2]), OUTSIDE);
            is("common " + w[0] + " " + w[1] + " " + w[2], x -> x.common(w[0], w[1], w[2]), OUTSIDE);
        }
        if (scene.equals("full")) {
            for (int what = 0; what < 2; what++) {
                int asked = what;
                is("rests " + what, x -> x.rests(0, 99, asked), NOT);
                is("common " + what, x -> x.common(99, 0, asked), NOT);
            }
        }
    }

    private static void ofTheStop() {
        // PLACE 5 is taken in both scenes in which somebody stands.
        for (int place : new int[] {0, 5, 15}) {
            int[][] outside = {{-1, 0, 0}, {20, 0, 0}, {LEAST, 0, 0}, {MOST, 0, 0}, {place, -1, 0}, {place, 4, 0},
                {place, MOST, 0}, {place, 0, -1}, {place, 0, 10}, {place, 0, LEAST}, {place, 4, 10}};
            for (int[] w : outside) {
                is("stand " + w[0] + " " + w[1] + " " + w[2], x -> x.stand(w[0], w[1], w[2]), OUTSIDE);
            }
        }
        if (!scene.equals("new")) {
            is("stand where somebody is", x -> x.stand(5, 0, 0), NOT);
            is("stand where somebody is, with an umbrella", x -> x.stand(5, 3, 9), NOT);
        }
        if (scene.equals("full")) {
            is("stand where the last one is", x -> x.stand(15, 0, 0), NOT);
            is("stand as the ninth", x -> x.stand(0, 0, 0), FULL);
            is("stand as the ninth, with an umbrella", x -> x.stand(19, 3, 9), FULL);
        }
        int people = scene.equals("new") ? 0 : scene.equals("going") ? 2 : 8;
        for (int one : new int[] {LEAST, -1, people, people + 1, 8, MOST}) {
            is("wet " + one, x -> x.wet(one), UNKNOWN);
        }
        for (int what : new int[] {LEAST, -1, 2, MOST}) {
            is("driest " + what, x -> x.driest(what), OUTSIDE);
        }
    }

    private static void ofSums() {
        is("two", x -> x.two(0, 0, 0, 21, 2), OUTSIDE);
        is("fair", x -> x.fair(9, 19, 20), OUTSIDE);
        is("run", x -> x.run(1, 1, 1, 0, 21, 0), OUTSIDE);
        is("pace", x -> x.pace(1, 1, 1, 21), OUTSIDE);
        is("door", x -> x.door(0, 0, 0, 0, 3), OUTSIDE);
        is("left", x -> x.left(1, 0, 0, 2, 0), OUTSIDE);
    }

    private static void ofSellers() {
        int places = scene.equals("full") ? 12 : 6;
        for (int price : new int[] {LEAST, -1, 0, 1, 99, 100, MOST}) {
            for (int place : new int[] {LEAST, -1, places, MOST}) {
                is("seller " + place + " " + price, x -> x.seller(place, price), UNKNOWN);
            }
            if (price < 1 || price > 99) {
                is("seller 0 " + price, x -> x.seller(0, price), OUTSIDE);
                is("seller at the last place " + price, x -> x.seller(places - 1, price), OUTSIDE);
            }
        }
        for (int what : new int[] {LEAST, -1, 3, MOST}) {
            is("where " + what, x -> x.where(what), OUTSIDE);
        }
    }

    private static void asks(String call, ToLongFunction<UmbrellaStreet> made) {
        is(call, made, made.applyAsLong(object()));
    }

    private static void ofAsking() {
        asks("cell", x -> x.cell(0, 1));
        asks("walker", x -> x.walker(0, 1));
        asks("done", x -> x.done());
        asks("pays", x -> x.pays(0, 2, 99, 99));
        asks("wet", x -> x.wet(0));
        asks("seller", x -> x.seller(0, 1));
        asks("two", x -> x.two(9, 19, 19, -20, 1));
        asks("fair", x -> x.fair(9, 19, 1));
        asks("run", x -> x.run(99, 99, 99, 20, 0, 1));
        asks("pace", x -> x.pace(99, 99, 99, 20));
        asks("door", x -> x.door(5, 5, 999, 8, 2));
        asks("left", x -> x.left(9, 9, 9, 9, 0));
        for (int what = 0; what < 8; what++) {
            int asked = what;
            asks("count " + what, x -> x.count(asked));
            asks("rests " + what, x -> x.rests(1, 1, asked));
            asks("common " + what, x -> x.common(1, 1, asked));
            asks("driest " + what, x -> x.driest(asked));
            asks("where " + what, x -> x.where(asked));
        }
    }
}
