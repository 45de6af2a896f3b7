/** The edges of promises 12 to 14, 25 and 26: what walkers pay by sizes, and what a seller takes in. */
public final class SizesEdgeTest {
    private static final int NONE = UmbrellaStreet.NONE;
    private static final int UNKNOWN = UmbrellaStreet.UNKNOWN;
    private static final int OUTSIDE = UmbrellaStreet.OUTSIDE;
    private static final int NOT = UmbrellaStreet.NOT;
    private static final int[] FAR = {Integer.MIN_VALUE, -2, -1, 100, 101, Integer.MAX_VALUE};

    public static void main(String[] args) {
        upToFourTold();
        sizesOfTheTold();
        costs();
        wholeStreet();
        restsAlone();
        firstRest();
        commonOnes();
        sellersPlaces();
        sellersPrices();
        buyers();
        bestOfSeveral();
        all512Calls();
        Due.end();
    }

    /** As many walkers side by side in their first place as are told, numbers from 0 on, in no RAIN. */
    private static UmbrellaStreet told(int many) {
        UmbrellaStreet x = Due.told("street 4 2");
        for (int k = 0; k < many; k++) {
            Due.tell(x, "walker " + k + " " + k % 4 + " " + k / 4 + " 0 5 0 0");
        }
        return x;
    }

    private static void upToFourTold() {
        int[] rests = {1, 3, 9, 27, 81};
        for (int many = 0; many <= 6; many++) {
            UmbrellaStreet x = told(many);
            boolean isIn = many <= 4;
            Due.is("rests of " + many, x.rests(0, 0, 0), isIn ? rests[many] : NOT);
            Due.is("the first of " + many, x.rests(0, 0, 1), isIn ? 0 : NOT);
            Due.is("common of " + many, x.common(0, 0, 0), isIn ? 0 : NOT);
            Due.is("paid by all of " + many, x.common(99, 99, 1), isIn ? 0 : NOT);
            for (int k = 0; k < 6; k++) {
                Due.is("pays of " + many + ": " + k, x.pays(k, 0, 99, 99), k >= many ? UNKNOWN : isIn ? 0 : NOT);
                Due.is("outside of " + many + ": " + k, x.pays(k, 0, 100, 99), k >= many ? UNKNOWN : OUTSIDE);
            }
            Due.is("rests outside of " + many, x.rests(0, 0, 2), OUTSIDE);
            Due.is("common outside of " + many, x.common(0, 0, 2), OUTSIDE);
        }
    }

    private static void sizesOfTheTold() {
        for (int many = 1; many <= 4; many++) {
            UmbrellaStreet x = told(many);
            for (int i = 0; i < many; i++) {
                for (int size = 0; size < 4; size++) {
                    for (int k = 0; k < many; k++) {
                        Due.is("pays of " + many + ", SIZE " + size + " of " + i + ": " + k, x.pays(k, size << 2 * i, 9, 0),
                                size == 3 ? OUTSIDE : k == i ? 9 * size : 0);
                    }
                }
            }
            Due.is("all have 2", x.pays(0, 0b10101010, 9, 0), 18);
            Due.is("all have 3", x.pays(0, -1, 9, 0), OUTSIDE);
        }
        // The sizes go to those told, by their numbers, also where numbers are left out.
        UmbrellaStreet x = Due.told("street 4 2;walker 5 0 0 0 5 0 0;walker 1 1 0 0 5 0 0;walker 3 2 0 0 5 0 0");
        int sizes = 2 | 1 << 2;
        Due.is("the first one: 1", x.pays(1, sizes, 10, 0), 20);
        Due.is("the second one: 3", x.pays(3, sizes, 10, 0), 10);
        Due.is("the third one: 5", x.pays(5, sizes, 10, 0), 0);
        for (int k : new int[] {-1, 0, 2, 4, 6}) {
            Due.is("not told: " + k, x.pays(k, sizes, 10, 0), UNKNOWN);
            Due.is("not told, and nothing as told: " + k, x.pays(k, 63, 100, -1), UNKNOWN);
        }
    }

    private static void costs() {
        // Two who poke one another for two places, in a rain of 6: 6, 3 or 2 each TICK.
        UmbrellaStreet x = Due.told("street 2 2;rain 0 59 6;walker 0 0 0 0 5 0 0;walker 1 1 0 0 5 0 0");
        for (int cost : new int[] {0, 1, 98, 99}) {
            Due.is("c " + cost, x.pays(0, 1 | 1 << 2, cost, 0), 6 + cost);
            Due.is("c " + cost + " for 2", x.pays(0, 2 | 1 << 2, cost, 0), 4 + 2 * cost);
            Due.is("p " + cost, x.pays(0, 1 | 1 << 2, 0, cost), 6 + 2 * cost);
            // Together 24, 12 + 2 c, 8 + 4 c.
            Due.is("common, c " + cost, x.common(cost, 0, 1), cost == 0 ? 8 : cost == 1 ? 12 : 24);
            Due.is("rests, c " + cost, x.rests(cost, 0, 0) > 0 ? 1 : 0, 1);
            Due.is("rests, p " + cost, x.rests(0, cost, 0) > 0 ? 1 : 0, 1);
        }
        for (int cost : FAR) {
            Due.is("pays, c " + cost, x.pays(0, 0, cost, 0), OUTSIDE);
            Due.is("pays, p " + cost, x.pays(0, 0, 0, cost), OUTSIDE);
            for (int what = 0; what < 2; what++) {
                Due.is("rests, c " + cost, x.rests(cost, 0, what), OUTSIDE);
                Due.is("rests, p " + cost, x.rests(0, cost, what), OUTSIDE);
                Due.is("common, c " + cost, x.common(cost, 0, what), OUTSIDE);
                Due.is("common, p " + cost, x.common(0, cost, what), OUTSIDE);
            }
        }
        for (int what : new int[] {Integer.MIN_VALUE, -1, 2, Integer.MAX_VALUE}) {
            Due.is("rests " + what, x.rests(0, 0, what), OUTSIDE);
            Due.is("common " + what, x.common(0, 0, what), OUTSIDE);
        }
        for (int what : new int[] {Integer.MIN_VALUE, -1, 3, Integer.MAX_VALUE}) {
            Due.is("where " + what, x.where(what), OUTSIDE);
        }
    }

    private static void wholeStreet() {
        // The last TICK, 59, counts as the first one does: face to face for 60 TICKS.
        UmbrellaStreet x = Due.told("street 1 2;rain 0 0 30;rain 59 59 60;walker 0 0 0 0 5 2 0;walker 1 0 1 0 5 2 0");
        Due.is("WET in TICKS 0 and 59", x.pays(0, 0, 0, 0), 90);
        Due.is("POKES in all 60", x.pays(0, 1 | 1 << 2, 0, 1), 45 + 60);
        Due.is("as told: SIZES", x.walker(0, 2), 0);
        x.go(30);
        x.keep(0);
        Due.is("also halfway", x.pays(0, 0, 0, 0), 90);
        x.rests(1, 1, 0);
        x.common(1, 1, 0);
        x.seller(0, 1);
        x.where(0);
        x.done();
        Due.is("TICKS stay", x.count(4), 30);
        Due.is("POKES stay", x.walker(0, 2), 30);
        Due.is("WET stays", x.walker(0, 1), 10);
        x.go(30);
        Due.is("SIZES stay", x.walker(0, 1), 30);
        x.back(0);
        Due.is("what is kept stays", x.walker(0, 1), 10);
    }

    private static void restsAlone() {
        UmbrellaStreet x = Due.told("street 1 1;rain 0 59 6;walker 3 0 0 0 5 1 0");
        // Alone 6, 3 + c, 2 + 2 c: by c 0 2, by c 1 1 and 2, by c 2 1, by c 3 0 and 1, by c 4 0.
        int[][] due = {{1, 2}, {2, 1}, {1, 1}, {2, 0}, {1, 0}};
        for (int c = 0; c < due.length; c++) {
            Due.is("alone, c " + c, x.rests(c, 0, 0), due[c][0]);
            Due.is("the first, c " + c, x.rests(c, 0, 1), due[c][1]);
            Due.is("common, c " + c, x.common(c, 0, 0), due[c][1]);
        }
        Due.is("c 99", x.rests(99, 0, 1), 0);
    }

    private static void firstRest() {
        // Two side by side whom no RAIN and no cost tells apart, but each POKE costs: those without a POKE rest.
        UmbrellaStreet x = Due.told("street 2 1;walker 2 0 0 0 5 0 0;walker 4 1 0 0 5 0 0");
        Due.is("rests without a POKE", x.rests(0, 1, 0), 5);
        Due.is("the first", x.rests(0, 1, 1), 0);
        // By 30 alone, 15 and 4, 10 and 8: one has 2, the other one is dry under it. The first by numbers is 0 2.
        Due.tell(x, "rain 0 0 30");
        Due.is("one of two", x.rests(4, 99, 0), 2);
        Due.is("0 of the lower number is first", x.rests(4, 99, 1), 2 << 2);
        // Found by search: by each of the 27 SIZES one pays less by another one.
        x = Due.told("street 3 3;rain 0 59 64;walker 0 2 1 1 6 0 1;walker 1 0 1 1 6 0 2;walker 2 0 0 2 4 0 2");
        Due.is("no RESTS", x.rests(43, 3, 0), 0);
        Due.is("none is the first", x.rests(43, 3, 1), NONE);
    }

    private static void commonOnes() {
        UmbrellaStreet x = Due.told("street 2 1;rain 0 0 30;walker 2 0 0 0 5 0 0;walker 4 1 0 0 9 0 0");
        // Together 60, 30 + 2 c, 20 + 4 c.
        int[][] want = {{0, 2, 20}, {4, 2, 36}, {5, 1, 40}, {6, 1, 42}, {14, 1, 58}, {15, 0, 60}, {16, 0, 60}, {99, 0, 60}};
        for (int[] w : want) {
            Due.is("common, c " + w[0], x.common(w[0], 0, 0), w[1]);
            Due.is("paid, c " + w[0], x.common(w[0], 0, 1), w[2]);
        }
    }

    // ---- a seller

    private static void sellersPlaces() {
        for (int l = 1; l <= 12; l++) {
            UmbrellaStreet x = Due.told("street 1 " + l + ";rain 0 59 1;walker 0 0 0 0 5 0 0");
            for (int place = -2; place < 14; place++) {
                boolean isThere = place >= 0 && place < l;
                Due.is("a seller at " + place + " of " + l, x.seller(place, 1), isThere ? place < l - 1 ? 1 : 0 : UNKNOWN);
                Due.is("for 0 at " + place + " of " + l, x.seller(place, 0), isThere ? OUTSIDE : UNKNOWN);
            }
        }
        UmbrellaStreet x = new UmbrellaStreet();
        for (int place : new int[] {Integer.MIN_VALUE, -1, 6, 7, Integer.MAX_VALUE}) {
            Due.is("a seller at " + place, x.seller(place, 1), UNKNOWN);
            Due.is("a seller at " + place + " for nothing", x.seller(place, 0), UNKNOWN);
        }
        for (int price : new int[] {Integer.MIN_VALUE, -1, 0, 100, 101, Integer.MAX_VALUE}) {
            Due.is("a seller for " + price, x.seller(5, price), OUTSIDE);
        }
        Due.is("nobody buys: what comes in", x.where(2), 0);
        Due.is("nobody buys: the least place", x.where(0), 0);
        Due.is("nobody buys: the least price", x.where(1), 1);
    }

    private static void sellersPrices() {
        // 200 at place 1 behind place 0, so that each price is paid, up to the dearest one.
        UmbrellaStreet x = Due.told("street 1 3;rain 0 59 99;walker 0 0 0 0 5 0 0");
        for (int price = 1; price < 100; price++) {
            Due.is("for " + price, x.seller(0, price), price);
            Due.is("for " + price + " one place on", x.seller(1, price), price);
            Due.is("for " + price + " at the last place", x.seller(2, price), 0);
        }
        for (int wet = 0; wet < 99; wet++) {
            Due.tell(x, "rain 0 59 0;rain 1 1 " + wet);
            Due.is("as much as it gets WET: " + wet, wet == 0 ? 0 : x.seller(0, wet), wet);
            Due.is("one more: " + wet, x.seller(0, wet + 1), 0);
            Due.is("most comes in: " + wet, x.where(2), wet);
            Due.is("at the price: " + wet, x.where(1), Math.max(1, wet));
            Due.is("at the place: " + wet, x.where(0), 0);
        }
    }

    private static void buyers() {
        // At place 1 only walker 0 comes by: in TICK 1, and it is there still in TICK 59.
        UmbrellaStreet x = Due.told("street 1 4;walker 0 0 0 0 5 0 0;walker 1 0 1 0 5 0 0");
        Due.tell(x, "rain 1 1 50");
        Due.is("RAIN of the first TICK there is not ahead of it", x.seller(1, 1), 0);
        Due.is("that of one place ahead is", x.seller(0, 50), 50);
        Due.tell(x, "rain 0 59 0;rain 2 2 50");
        Due.is("RAIN of the TICK behind it is", x.seller(1, 50), 50);
        Due.tell(x, "rain 0 59 0;rain 59 59 50");
        Due.is("RAIN of the last TICK is", x.seller(1, 50), 50);
        Due.is("and both at their places pay", x.seller(2, 50), 50);
        // Who has an umbrella does not buy, who stands beside one buys by what it gets.
        x = Due.told("street 4 2;rain 1 1 20;walker 0 0 0 0 5 1 0;walker 1 1 0 0 5 0 0;walker 2 3 0 0 5 0 0");
        Due.is("one at a rim", x.seller(0, 30), 30);
        Due.is("both for less", x.seller(0, 20), 40);
        Due.is("nobody for more", x.seller(0, 31), 0);
        // Who comes in the last of TICKS that there are for it: by START 20, in rain of all of them.
        x = Due.told("street 1 1;rain 0 59 9;walker 0 0 0 20 5 0 0");
        Due.is("THROUGH behind its only place", x.seller(0, 1), 0);
        // In TICK 0 four are at place 0, two at place 1; 2 and 3 go on to there as it rains, 0 and 1 can not.
        x = Due.told("street 4 2;rain 1 1 9;walker 0 0 0 0 5 0 0;walker 1 1 0 0 5 0 0;walker 2 2 0 0 5 0 0;walker 3 3 0 0 5 0 0");
        Due.tell(x, "walker 4 0 1 0 5 0 0;walker 5 1 1 0 5 0 0");
        Due.is("four buy at once", x.seller(0, 9), 36);
        Due.is("two of four buy", x.seller(1, 9), 18);
    }

    private static void bestOfSeveral() {
        // The one goes up, the other one down: both have been at places 1 and 2 ahead of TICK 3.
        UmbrellaStreet x = Due.told("street 2 4;rain 0 59 0;rain 3 3 8;walker 0 0 0 0 5 0 0;walker 1 1 1 0 5 0 0");
        Due.is("both at place 1 for 8", x.seller(1, 8), 16);
        Due.is("both at place 2 for 8", x.seller(2, 8), 16);
        Due.is("one at place 0", x.seller(0, 8), 8);
        Due.is("of several the least place", x.where(0), 1);
        Due.is("the price", x.where(1), 8);
        Due.is("what comes in", x.where(2), 16);
        // 10 for two, 20 for one: as good, so the least price.
        x = Due.told("street 2 3;rain 1 1 10;rain 2 2 10;walker 0 0 0 0 5 0 0;walker 1 1 0 1 5 0 0");
        Due.is("two for 10", x.seller(0, 10), 20);
        Due.is("one for 20", x.seller(0, 20), 20);
        Due.is("of several the least price", x.where(1), 10);
        Due.is("at the least place", x.where(0), 0);
        // The last place but one, and the last of all places, with rain only there.
        x = Due.told("street 1 12;rain 11 11 7;walker 0 0 1 0 5 0 0;walker 1 0 1 20 5 0 0");
        Due.is("the least place from which it rains yet", x.where(0), 1);
        Due.is("for 7", x.where(1), 7);
        x = Due.told("street 1 12;rain 1 1 7;walker 0 0 1 0 5 0 0");
        Due.is("the last place", x.where(0), 11);
        Due.is("comes in there", x.where(2), 7);
    }

    /** The dearest call of all, as often as an object is used, answers the same up to the last time. */
    private static void all512Calls() {
        UmbrellaStreet x = told(4);
        Due.tell(x, "rain 0 59 99");
        int first = x.rests(9, 9, 0);
        int sizes = x.rests(9, 9, 1);
        // Six texts of four writes at most, six showers and six counts are less than 60 calls.
        for (int i = 0; i < 225; i++) {
            Due.is("rests, call " + (60 + 2 * i), x.rests(9, 9, 0), first);
            Due.is("the first, call " + (61 + 2 * i), x.rests(9, 9, 1), sizes);
        }
        Due.is("rests at all", first > 0 ? 1 : 0, 1);
    }
}
