/** The edges of promises 6 to 11 and 27: cells, walkers, ticks, who gives way, pokes, gets wet, what is kept, counts. */
public final class StreetEdgeTest {
    private static final int NONE = UmbrellaStreet.NONE;
    private static final int UNKNOWN = UmbrellaStreet.UNKNOWN;
    private static final int OUTSIDE = UmbrellaStreet.OUTSIDE;
    private static final int NOT = UmbrellaStreet.NOT;
    private static final int[] FAR = {Integer.MIN_VALUE, Integer.MIN_VALUE + 1, -100, Integer.MAX_VALUE - 1, Integer.MAX_VALUE};

    public static void main(String[] args) {
        whatIsRead();
        whoIsTold();
        noMoreTicks();
        lastTick();
        starts();
        firstPlaces();
        byTheirNumbers();
        lastPlaces();
        besideOnEachWay();
        fullStreet();
        pokesByHeights();
        pokesByPlaces();
        pokesByLanes();
        rimsAndCovers();
        rainCut();
        awnings();
        twoKept();
        keptAtTheEnds();
        donePerTold();
        counted();
        twoObjects();
        Due.end();
    }

    private static void is(UmbrellaStreet x, String when, int what, int... want) {
        for (int k = 0; k < want.length; k++) {
            Due.is(when + ": walker " + k + ", " + what, x.walker(k, what), want[k]);
        }
    }

    // ---- what is read

    private static void whatIsRead() {
        UmbrellaStreet x = Due.told("walker 0 0 0 0 5 0 0;awning 0 0");
        x.go(1);
        Due.is("cell 0, what 0", x.cell(0, 0), 1);
        Due.is("cell 0, what 1", x.cell(0, 1), 0);
        Due.is("cell 1, what 1", x.cell(1, 1), NONE);
        for (int what : new int[] {-2, -1, 2, 3}) {
            Due.is("cell 0, what " + what, x.cell(0, what), OUTSIDE);
            Due.is("cell 2, what " + what, x.cell(2, what), UNKNOWN);
        }
        for (int what = 0; what < 5; what++) {
            Due.is("walker 0, what " + what, x.walker(0, what), 0);
        }
        for (int what : new int[] {-2, -1, 5, 6}) {
            Due.is("walker 0, what " + what, x.walker(0, what), OUTSIDE);
            Due.is("walker 1, what " + what, x.walker(1, what), UNKNOWN);
        }
        for (int what : FAR) {
            Due.is("cell 0, what " + what, x.cell(0, what), OUTSIDE);
            Due.is("walker 0, what " + what, x.walker(0, what), OUTSIDE);
            Due.is("count " + what, x.count(what), OUTSIDE);
            Due.is("cell " + what, x.cell(what, 0), UNKNOWN);
            Due.is("walker " + what, x.walker(what, 0), UNKNOWN);
            Due.is("keep " + what, x.keep(what), UNKNOWN);
            Due.is("back " + what, x.back(what), UNKNOWN);
            Due.is("go " + what, x.go(what), OUTSIDE);
        }
    }

    private static void whoIsTold() {
        for (int told = 0; told < 6; told++) {
            UmbrellaStreet x = Due.told("walker " + told + " 1 1 0 9 2 2");
            x.go(1);
            for (int k = -2; k < 8; k++) {
                Due.is(told + " is told, at: " + k, x.walker(k, 0), k == told ? 21 : UNKNOWN);
            }
            Due.is("who is there", x.cell(21, 1), told);
            Due.is("one", x.count(2), 1);
            Due.tell(x, "gone " + told);
            Due.is("gone " + told, x.walker(told, 0), UNKNOWN);
            Due.is("nobody", x.count(2), 0);
        }
    }

    // ---- ticks

    private static void noMoreTicks() {
        for (int n = 1; n <= 60; n++) {
            UmbrellaStreet x = new UmbrellaStreet();
            Due.is("go " + n, x.go(n), n);
            Due.is("no more than are left", x.go(60), 60);
        }
        UmbrellaStreet x = Due.told("street 1 2;walker 0 0 0 0 5 0 0;walker 1 0 1 0 5 0 0;rain 0 59 1");
        Due.is("go 59", x.go(59), 59);
        Due.is("two of one that is left", x.go(2), 60);
        Due.is("60 TICKS of RAIN", x.walker(0, 1), 60);
        for (int n : new int[] {1, 2, 60}) {
            Due.is("none is left", x.go(n), 60);
            Due.is("nothing goes on: WET", x.walker(0, 1), 60);
            Due.is("nothing goes on: WAITED", x.walker(0, 3), 59);
        }
        Due.is("0 of none", x.go(0), OUTSIDE);
        Due.is("61 of none", x.go(61), OUTSIDE);
    }

    private static void lastTick() {
        UmbrellaStreet x = Due.told("street 1 2;walker 0 0 0 0 5 1 0;walker 1 0 1 0 5 1 0;rain 59 59 8");
        x.go(59);
        is(x, "ahead of the last TICK", 1, 0, 0);
        is(x, "ahead of the last TICK", 2, 59, 59);
        x.go(1);
        is(x, "behind the last TICK", 1, 4, 4);
        is(x, "behind the last TICK", 2, 60, 60);
    }

    private static void starts() {
        for (int start = 0; start <= 20; start++) {
            UmbrellaStreet x = Due.told("walker 0 0 0 " + start + " 5 0 0");
            if (start > 0) {
                x.go(start);
                is(x, "ahead of START " + start, 0, NONE);
            }
            x.go(1);
            is(x, "at START " + start, 0, 0);
            is(x, "who has come has not WAITED", 3, 0);
        }
    }

    private static void firstPlaces() {
        for (int l = 1; l <= 12; l++) {
            for (int lane = 0; lane < 4; lane++) {
                UmbrellaStreet x = Due.told("street 4 " + l + ";walker 0 " + lane + " 0 0 5 0 0;walker 1 " + (lane + 1) % 4 + " 1 0 5 0 0");
                x.go(1);
                is(x, "first places of " + l, 0, lane, 4 * (l - 1) + (lane + 1) % 4);
            }
        }
        // Of two who come to one CELL the lower number comes, the other one behind that, as soon as it is free.
        UmbrellaStreet x = Due.told("street 1 1;walker 5 0 0 0 5 0 0;walker 2 0 1 0 5 0 0;walker 4 0 0 1 5 0 0");
        int[] who = {2, 4, 5, NONE};
        for (int t = 0; t < who.length; t++) {
            x.go(1);
            Due.is("one CELL for three, TICK " + t, x.cell(0, 1), who[t]);
            Due.is("on it", x.count(3), who[t] == NONE ? 0 : 1);
        }
        for (int k : new int[] {2, 4, 5}) {
            Due.is("THROUGH: " + k, x.walker(k, 4), 1);
            Due.is("who could not come has not WAITED: " + k, x.walker(k, 3), 0);
        }
    }

    private static void byTheirNumbers() {
        // 0 goes ahead of 1: the CELL ahead of 0 is taken still. The other way round it is free already.
        UmbrellaStreet x = Due.told("street 1 4;walker 1 0 0 0 5 0 0;walker 0 0 0 1 5 0 0");
        x.go(2);
        is(x, "one behind the other", 0, 0, 4);
        x.go(1);
        is(x, "the lower number is behind: it stays", 0, 0, 8);
        is(x, "it WAITED", 3, 1, 0);
        x = Due.told("street 1 4;walker 0 0 0 0 5 0 0;walker 1 0 0 1 5 0 0");
        x.go(3);
        is(x, "the greater number is behind: it goes", 0, 8, 4);
        is(x, "nobody WAITED", 3, 0, 0);
        // All that are on THE STREET go ahead of those who come.
        x = Due.told("street 1 2;walker 0 0 0 1 5 0 0;walker 5 0 0 0 5 0 0");
        x.go(2);
        Due.is("a CELL that gets free is free for who comes", x.walker(0, 0), 0);
        Due.is("of who went ahead", x.walker(5, 0), 4);
        // Who is THROUGH leaves its CELL to who goes behind it in the same TICK.
        x = Due.told("street 1 2;walker 0 0 0 0 5 0 0;walker 1 0 0 1 5 0 0");
        x.go(3);
        is(x, "THROUGH", 4, 1, 0);
        is(x, "into the CELL left", 0, NONE, 4);
    }

    private static void lastPlaces() {
        for (int l = 1; l <= 12; l++) {
            for (int way = 0; way < 2; way++) {
                UmbrellaStreet x = Due.told("street 1 " + l + ";walker 0 0 " + way + " 0 5 0 1");
                x.go(l);
                is(x, "at the last place of " + l, 0, way == 0 ? 4 * (l - 1) : 0);
                is(x, "not THROUGH", 4, 0);
                x.go(1);
                is(x, "behind the last place", 0, NONE);
                is(x, "THROUGH", 4, 1);
                is(x, "has not WAITED", 3, 0);
                Due.is("DONE of " + l, x.done(), l + 1);
            }
        }
    }

    /** Walker 0, from a lane on, meets one who stays, in three lanes: where it is, NONE for where it was. */
    private static void steps(int way, int rule, int lane, int want) {
        UmbrellaStreet x = Due.told("street 3 2;walker 1 " + lane + " " + (1 - way) + " 0 5 0 0;walker 0 " + lane + " " + way + " 0 5 0 " + rule);
        x.go(1);
        int was = x.walker(0, 0);
        x.go(1);
        String call = "way " + way + ", rule " + rule + ", lane " + lane;
        Due.is(call, x.walker(0, 0), want == NONE ? was : was - lane + want);
        Due.is(call + ": WAITED", x.walker(0, 3), want == NONE ? 1 : 0);
    }

    private static void besideOnEachWay() {
        int[] less = {NONE, 0, 1};
        int[] more = {1, 2, NONE};
        for (int lane = 0; lane < 3; lane++) {
            steps(0, 0, lane, NONE);
            steps(1, 0, lane, NONE);
            steps(0, 1, lane, less[lane]);
            steps(1, 2, lane, less[lane]);
            steps(0, 2, lane, more[lane]);
            steps(1, 1, lane, more[lane]);
        }
        // It steps aside only where the CELL ahead is taken, and only one lane.
        UmbrellaStreet x = Due.told("street 4 4;walker 0 0 0 0 5 0 2");
        x.go(3);
        is(x, "nobody ahead", 0, 8);
    }

    private static void fullStreet() {
        // All six CELLS are taken, face to face: nobody goes, whatever its RULE.
        UmbrellaStreet x = Due.told("street 3 2;walker 0 0 0 0 5 0 0;walker 1 1 0 0 5 0 1;walker 2 2 0 0 5 0 2");
        Due.tell(x, "walker 3 0 1 0 5 0 0;walker 4 1 1 0 5 0 1;walker 5 2 1 0 5 0 2");
        x.go(60);
        is(x, "full", 0, 0, 1, 2, 4, 5, 6);
        is(x, "full", 3, 59, 59, 59, 59, 59, 59);
        Due.is("all six on THE STREET", x.count(3), 6);
        Due.is("all six told", x.count(2), 6);
        Due.is("not in 60", x.done(), NONE);
    }

    // ---- pokes

    /** POKES of one TICK of two who come at once, with all of both LINES but their numbers and RULES. */
    private static int pokes(String one, String another) {
        UmbrellaStreet x = Due.told("street 4 3;walker 0 " + one + " 0;walker 1 " + another + " 0");
        x.go(1);
        Due.is("each POKES the other: " + one + ", " + another, x.walker(0, 2), x.walker(1, 2));
        Due.is("one pair: " + one + ", " + another, x.count(7), x.walker(0, 2));
        return x.walker(0, 2);
    }

    private static void pokesByHeights() {
        for (int one = 1; one <= 9; one++) {
            for (int another = 1; another <= 9; another++) {
                int apart = Math.abs(one - another);
                Due.is("HEIGHTS " + one + ", " + another, pokes("0 0 0 " + one + " 1", "1 0 0 " + another + " 1"), apart < 2 ? 1 : 0);
            }
        }
    }

    private static void pokesByPlaces() {
        // In lanes 0 and 1, from both ends of l places: l - 1 apart, then two less each TICK.
        int[][] want = {{1, 1, 1}, {1, 2, 2}, {0, 1, 1}, {0, 1, 2}, {0, 0, 1}, {0, 0, 1}};
        for (int l = 1; l <= 6; l++) {
            UmbrellaStreet x = Due.told("street 2 " + l + ";walker 0 0 0 0 5 1 0;walker 1 1 1 0 5 1 0");
            for (int t = 0; t < 3; t++) {
                x.go(1);
                Due.is(l + " places, TICK " + t, x.count(7), want[l - 1][t]);
                is(x, l + " places, TICK " + t, 2, want[l - 1][t], want[l - 1][t]);
            }
        }
    }

    private static void pokesByLanes() {
        for (int lane = 1; lane < 4; lane++) {
            for (int one = 0; one < 3; one++) {
                for (int another = 0; another < 3; another++) {
                    boolean isPoke = one > 0 && another > 0 && lane <= Math.max(one, another);
                    Due.is("lanes " + lane + " apart, SIZES " + one + ", " + another,
                            pokes("0 0 0 5 " + one, lane + " 0 0 5 " + another), isPoke ? 1 : 0);
                }
            }
        }
        // Six in one place POKE whom they reach: pairs are counted once, each has its own.
        UmbrellaStreet x = Due.told("street 4 1;walker 0 0 0 0 5 1 0;walker 1 1 0 0 6 1 0;walker 2 2 0 0 7 1 0;walker 3 3 0 0 8 2 0");
        x.go(1);
        is(x, "four in a place", 2, 1, 2, 2, 1);
        Due.is("three pairs", x.count(7), 3);
    }

    // ---- wet

    /** What walker 0, without an umbrella at lane 0, gets of an amount beside one at a lane with a size. */
    private static int wetBeside(int amount, int lane, int size) {
        UmbrellaStreet x = Due.told("street 4 3;rain 0 0 " + amount + ";walker 0 0 0 0 1 0 0;walker 1 " + lane + " 0 0 9 " + size + " 0");
        x.go(1);
        return x.walker(0, 1);
    }

    private static void rimsAndCovers() {
        for (int amount : new int[] {0, 1, 2, 3, 98, 99}) {
            for (int lane = 1; lane < 4; lane++) {
                for (int size = 0; size < 3; size++) {
                    boolean isOver = size > lane;
                    boolean isRim = size == lane;
                    int want = isOver ? 0 : amount + (isRim ? amount / 2 : 0);
                    Due.is(amount + " beside SIZE " + size + ", " + lane + " off", wetBeside(amount, lane, size), want);
                }
            }
        }
        // Only at the same place: in TICK 1 the other one is one place ahead.
        UmbrellaStreet x = Due.told("street 2 3;rain 0 59 10;walker 0 0 0 1 5 0 0;walker 1 1 0 0 5 2 0");
        x.go(2);
        Due.is("one place behind an umbrella", x.walker(0, 1), 10);
        // Rims of three, and all of them gone under one that is over it.
        x = Due.told("street 4 1;rain 0 59 9;walker 0 1 0 0 1 0 0;walker 1 0 0 0 9 1 0;walker 2 2 0 0 9 1 0;walker 3 3 0 0 9 2 0");
        x.go(1);
        Due.is("at three rims, each cut", x.walker(0, 1), 9 + 3 * 4);
        x = Due.told("street 4 1;rain 0 59 9;walker 0 1 0 0 1 0 0;walker 1 0 0 0 9 1 0;walker 2 2 0 0 9 2 0;walker 3 3 0 0 9 2 0");
        x.go(1);
        Due.is("under one, at two rims", x.walker(0, 1), 0);
        // Umbrellas of those who are not yet, or no more, on THE STREET are nowhere.
        x = Due.told("street 2 1;rain 0 59 10;walker 0 0 0 1 5 0 0;walker 1 1 0 0 5 2 0;walker 2 1 0 2 5 2 0");
        x.go(1);
        Due.is("not on it", x.walker(0, 1), 0);
        x.go(1);
        Due.is("alone on it", x.walker(0, 1), 10);
    }

    private static void rainCut() {
        for (int amount = 0; amount < 100; amount++) {
            UmbrellaStreet x = Due.told("street 4 1;rain 0 0 " + amount + ";walker 0 0 0 0 1 0 0;walker 1 3 0 0 9 1 0");
            x.go(1);
            is(x, "RAIN " + amount, 1, amount, amount / 2);
            x = Due.told("street 4 1;rain 0 0 " + amount + ";walker 0 0 0 0 1 2 0;walker 1 1 0 0 9 2 0");
            x.go(1);
            // Who has an umbrella gets nothing more by rims, nothing less by others'.
            is(x, "RAIN " + amount + " by 3", 1, amount / 3, amount / 3);
        }
    }

    private static void awnings() {
        for (int size = 0; size < 3; size++) {
            UmbrellaStreet x = Due.told("street 2 3;awning 1 0;rain 0 59 12;walker 0 0 0 0 5 " + size + " 0");
            int by = 12 / (size + 1);
            x.go(1);
            is(x, "ahead of an AWNING", 1, by);
            x.go(1);
            is(x, "under an AWNING", 1, by);
            x.go(1);
            is(x, "behind an AWNING", 1, 2 * by);
        }
        UmbrellaStreet x = Due.told("street 2 3;awning 0 1;rain 0 59 12;walker 0 0 0 0 5 0 0;walker 1 1 0 0 5 1 0");
        x.go(1);
        is(x, "beside an AWNING, at the rim of one under it", 1, 18, 0);
        x = Due.told("street 2 3;awning 0 0;rain 0 59 12;walker 0 0 0 0 5 0 0;walker 1 1 0 0 5 1 0");
        x.go(1);
        is(x, "under an AWNING, at a rim", 1, 0, 6);
    }

    // ---- kept

    private static UmbrellaStreet faceToFace() {
        return Due.told("street 1 2;rain 0 59 4;walker 0 0 0 0 5 1 0;walker 1 0 1 0 5 1 0");
    }

    private static void asItWas(UmbrellaStreet x, String when, int ticks) {
        Due.is(when + ": TICKS", x.count(4), ticks);
        Due.is(when + ": on THE STREET", x.count(3), ticks == 0 ? 0 : 2);
        Due.is(when + ": POKES of pairs", x.count(7), ticks);
        is(x, when, 0, ticks == 0 ? NONE : 0, ticks == 0 ? NONE : 4);
        is(x, when, 1, 2 * ticks, 2 * ticks);
        is(x, when, 2, ticks, ticks);
        is(x, when, 3, Math.max(0, ticks - 1), Math.max(0, ticks - 1));
        is(x, when, 4, 0, 0);
    }

    private static void twoKept() {
        UmbrellaStreet x = faceToFace();
        Due.is("nothing kept at first: 0", x.back(0), NOT);
        Due.is("nothing kept at first: 1", x.back(1), NOT);
        x.go(3);
        Due.is("keep -1", x.keep(-1), UNKNOWN);
        Due.is("keep 2", x.keep(2), UNKNOWN);
        Due.is("keep 0", x.keep(0), 3);
        Due.is("0 is kept, not 1", x.back(1), NOT);
        x.go(4);
        Due.is("keep 1", x.keep(1), 7);
        x.go(5);
        asItWas(x, "on", 12);
        Due.is("back to 0", x.back(0), 3);
        asItWas(x, "0", 3);
        Due.is("back to 1", x.back(1), 7);
        asItWas(x, "1", 7);
        Due.is("it goes on from that", x.go(1), 8);
        asItWas(x, "on from 1", 8);
        Due.is("what is kept stays as it was", x.back(1), 7);
        asItWas(x, "1 again", 7);
        Due.is("back -1", x.back(-1), UNKNOWN);
        Due.is("back 2", x.back(2), UNKNOWN);
        asItWas(x, "a refused one", 7);
        Due.is("0 kept anew", x.keep(0), 7);
        Due.is("back to 1 as well", x.back(1), 7);
        x.go(60);
        Due.is("back to 0 as kept anew", x.back(0), 7);
        asItWas(x, "0 kept anew", 7);
        Due.put(x, "x");
        x.shower();
        x.fault();
        x.erase();
        Due.is("a text that was not done leaves what is kept", x.back(1), 7);
    }

    private static void keptAtTheEnds() {
        UmbrellaStreet x = faceToFace();
        Due.is("keep at 0", x.keep(0), 0);
        x.go(60);
        Due.is("keep at 60", x.keep(1), 60);
        Due.is("back to 0", x.back(0), 0);
        asItWas(x, "at 0", 0);
        Due.is("60 TICKS are left", x.go(60), 60);
        asItWas(x, "at 60 anew", 60);
        x.back(0);
        Due.is("back to 60", x.back(1), 60);
        asItWas(x, "at 60", 60);
        Due.is("none is left", x.go(1), 60);
        asItWas(x, "behind 60", 60);
        // On a new object, with nobody; and with one THROUGH.
        x = new UmbrellaStreet();
        Due.is("keep of nobody", x.keep(1), 0);
        x.go(2);
        Due.is("back of nobody", x.back(1), 0);
        x = Due.told("street 1 1;walker 0 0 0 0 5 0 0");
        x.go(2);
        x.keep(0);
        x.go(1);
        x.back(0);
        is(x, "THROUGH is kept", 4, 1);
        x.go(1);
        is(x, "so it does not come again", 0, NONE);
        Due.tell(x, "gone 5");
        x.keep(0);
        x.go(2);
        x.back(0);
        is(x, "not THROUGH is kept", 4, 0);
    }

    // ---- done, counts

    private static void donePerTold() {
        UmbrellaStreet x = new UmbrellaStreet();
        Due.is("DONE of nobody", x.done(), 0);
        for (int start = 0; start <= 20; start++) {
            Due.tell(x, "street 1 12;walker 3 0 1 " + start + " 5 0 0");
            Due.is("DONE from START " + start, x.done(), start + 13);
            x.go(start + 12);
            Due.is("DONE goes from TICK 0 on", x.done(), start + 13);
            Due.is("it is at the last place yet", x.walker(3, 0), 0);
            x.go(1);
            Due.is("as many TICKS as it takes", x.walker(3, 4), 1);
        }
        Due.tell(x, "gone 3");
        Due.is("DONE of nobody again", x.done(), 0);
        x = faceToFace();
        Due.is("not in 60", x.done(), NONE);
        Due.tell(x, "gone 1");
        Due.is("alone in 3", x.done(), 3);
        // Found by search, and none is longer: six who wait for one another.
        x = Due.told("street 2 12;walker 0 0 0 13 5 0 2;walker 1 1 1 20 5 0 2;walker 2 0 1 20 5 0 2");
        Due.tell(x, "walker 3 1 0 9 5 0 2;walker 4 1 1 19 5 0 2;walker 5 1 1 20 5 0 2");
        int done = x.done();
        Due.is("DONE of six", done, 40);
        x.go(done - 1);
        int through = 0;
        for (int k = 0; k < 6; k++) {
            through += x.walker(k, 4);
        }
        Due.is("a TICK ahead of DONE", through < 6 ? 1 : 0, 1);
        x.go(1);
        is(x, "at DONE", 4, 1, 1, 1, 1, 1, 1);
    }

    private static void counted() {
        UmbrellaStreet x = Due.told("street 3 5;walker 0 0 0 0 5 1 0;walker 4 1 0 0 5 1 0;walker 5 1 1 9 5 1 0");
        x.go(2);
        Due.put(x, "gone");
        x.stand(0, 0, 0);
        int[] want = {3, 5, 3, 2, 2, 4, 1, 2};
        for (int what = 0; what < 8; what++) {
            Due.is("count " + what, x.count(what), want[what]);
        }
        for (int what : new int[] {-2, -1, 8, 9}) {
            Due.is("count " + what, x.count(what), OUTSIDE);
        }
    }

    private static void twoObjects() {
        UmbrellaStreet x = faceToFace();
        UmbrellaStreet other = new UmbrellaStreet();
        x.go(7);
        x.keep(0);
        x.stand(3, 3, 3);
        Due.put(x, "gone");
        int[] want = {2, 6, 0, 0, 0, 0, 0, 0};
        for (int what = 0; what < 8; what++) {
            Due.is("another object has nothing of it: count " + what, other.count(what), want[what]);
        }
        Due.is("nothing kept there", other.back(0), NOT);
        Due.is("nobody told there", other.walker(0, 0), UNKNOWN);
        other.go(60);
        Due.tell(other, "street 1 1;rain 0 59 99");
        asItWas(x, "nor has it of the other one", 7);
    }
}
