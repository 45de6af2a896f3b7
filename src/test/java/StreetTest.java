/** Promises 6 to 11 and 27: cell, walker, go, keep, back, done, count. */
public final class StreetTest {
    private static final int NONE = UmbrellaStreet.NONE;
    private static final int UNKNOWN = UmbrellaStreet.UNKNOWN;
    private static final int OUTSIDE = UmbrellaStreet.OUTSIDE;
    private static final int NOT = UmbrellaStreet.NOT;

    public static void main(String[] args) {
        refused();
        walkingThrough();
        coming();
        givingWay();
        poking();
        wetBare();
        wetWithUmbrella();
        keeping();
        doneOrNot();
        Due.end();
    }

    private static void refused() {
        UmbrellaStreet x = Due.told("street 3 4;awning 1 2;walker 5 0 0 0 5 0 0");
        Due.is("awning", x.cell(6, 0), 1);
        Due.is("no awning", x.cell(5, 0), 0);
        Due.is("nobody", x.cell(6, 1), NONE);
        Due.is("cell what 2", x.cell(6, 2), OUTSIDE);
        Due.is("cell what -1", x.cell(6, -1), OUTSIDE);
        Due.is("no lane 3", x.cell(7, 9), UNKNOWN);
        Due.is("no place 4", x.cell(16, 0), UNKNOWN);
        Due.is("no cell -1", x.cell(-1, 0), UNKNOWN);
        Due.is("no cell -4", x.cell(-4, 0), UNKNOWN);
        Due.is("no cell beyond", x.cell(Integer.MAX_VALUE, 0), UNKNOWN);
        Due.is("walker what 5", x.walker(5, 5), OUTSIDE);
        Due.is("walker what -1", x.walker(5, -1), OUTSIDE);
        Due.is("not told", x.walker(4, 9), UNKNOWN);
        Due.is("no walker 6", x.walker(6, 0), UNKNOWN);
        Due.is("no walker -1", x.walker(-1, 0), UNKNOWN);
        Due.is("go 0", x.go(0), OUTSIDE);
        Due.is("go 61", x.go(61), OUTSIDE);
        Due.is("go -1", x.go(-1), OUTSIDE);
        Due.is("keep 2", x.keep(2), UNKNOWN);
        Due.is("keep -1", x.keep(-1), UNKNOWN);
        Due.is("back 2", x.back(2), UNKNOWN);
        Due.is("back -1", x.back(-1), UNKNOWN);
        Due.is("back 0", x.back(0), NOT);
        Due.is("count 8", x.count(8), OUTSIDE);
        Due.is("count -1", x.count(-1), OUTSIDE);
        Due.is("nothing has changed", x.count(4), 0);
    }

    private static void at(UmbrellaStreet x, String when, int... cells) {
        for (int k = 0; k < cells.length; k++) {
            Due.is(when + ": cell of walker " + k, x.walker(k, 0), cells[k]);
        }
    }

    private static void walkingThrough() {
        UmbrellaStreet x = Due.told("street 2 3;walker 0 0 0 0 5 0 0;walker 1 1 1 0 5 0 0");
        Due.is("go 1", x.go(1), 1);
        at(x, "tick 0", 0, 9);
        Due.is("who is at 0", x.cell(0, 1), 0);
        Due.is("who is at 9", x.cell(9, 1), 1);
        x.go(2);
        at(x, "tick 2", 8, 1);
        Due.is("not through yet", x.walker(0, 4), 0);
        Due.is("two on the street", x.count(3), 2);
        Due.is("go to 4", x.go(1), 4);
        at(x, "tick 3", NONE, NONE);
        Due.is("through", x.walker(0, 4), 1);
        Due.is("the other through", x.walker(1, 4), 1);
        Due.is("nobody on the street", x.count(3), 0);
        Due.is("nobody at 8", x.cell(8, 1), NONE);
        x.go(1);
        at(x, "who is through does not come again", NONE, NONE);
        Due.is("go all", x.go(60), 60);
        Due.is("no more ticks", x.go(1), 60);
        Due.is("count ticks", x.count(4), 60);
        Due.is("nobody waited", x.walker(0, 3), 0);
    }

    private static void coming() {
        UmbrellaStreet x = Due.told("street 1 4;walker 0 0 0 1 5 0 0;walker 1 0 0 1 5 0 0;walker 2 0 0 20 5 0 0");
        x.go(1);
        at(x, "tick 0", NONE, NONE, NONE);
        x.go(1);
        at(x, "tick 1: the lower number first", 0, NONE, NONE);
        Due.is("who can not come does not wait", x.walker(1, 3), 0);
        x.go(1);
        at(x, "tick 2: the start was ahead", 4, 0, NONE);
        x.go(17);
        at(x, "tick 19", NONE, NONE, NONE);
        x.go(1);
        at(x, "tick 20", NONE, NONE, 0);
    }

    private static void givingWay() {
        // LEFT is the lane one less on way 0, one more on way 1; RIGHT the other way round.
        meet("1", "0", 1, 1, 4, 9);
        meet("2", "0", 1, 1, 6, 9);
        meet("0", "1", 1, 1, 5, 10);
        meet("0", "2", 1, 1, 5, 8);
        // Walker 0 goes first: it steps aside, and the other has the cell ahead free.
        UmbrellaStreet x = Due.told("street 3 4;walker 0 1 0 0 5 0 2;walker 1 1 1 0 5 0 1");
        x.go(3);
        at(x, "one of two steps aside", 6, 5);
        Due.is("walker 0 has not waited", x.walker(0, 3), 0);
        Due.is("walker 1 has not waited", x.walker(1, 3), 0);
        // No lane on that side: both stay and wait.
        x = Due.told("street 1 2;walker 0 0 0 0 5 0 1;walker 1 0 1 0 5 0 2");
        x.go(4);
        at(x, "no lane beside", 0, 4);
        Due.is("waited 0", x.walker(0, 3), 3);
        Due.is("waited 1", x.walker(1, 3), 3);
        x = Due.told("street 1 2;walker 0 0 0 0 5 0 2;walker 1 0 1 0 5 0 1");
        x.go(4);
        at(x, "no lane beside, on the other side", 0, 4);
        Due.is("waited there", x.walker(0, 3), 3);
        // Somebody is beside: it stays.
        x = Due.told("street 2 2;walker 0 0 0 0 5 0 2;walker 1 0 1 0 5 0 0;walker 2 1 0 0 5 0 0;walker 3 1 1 0 5 0 0");
        x.go(2);
        at(x, "taken beside", 0, 4, 1, 5);
        Due.is("waited as the cell beside was taken", x.walker(0, 3), 1);
        // Behind the last place it is through, also where its rule could step.
        x = Due.told("street 2 1;walker 0 0 0 0 5 0 2");
        x.go(2);
        Due.is("through from the only place", x.walker(0, 4), 1);
    }

    /** Two meet in the middle lane of three; where both are behind the tick in which they meet. */
    private static void meet(String rule, String other, int from, int to, int one, int another) {
        UmbrellaStreet x = Due.told("street 3 4;walker 0 " + from + " 0 0 5 0 " + rule
                + ";walker 1 " + to + " 1 0 5 0 " + other);
        x.go(2);
        at(x, "they meet", 5, 9);
        x.go(1);
        boolean steps = !rule.equals("0");
        at(x, rule + " meets " + other, steps ? one : 5, steps ? 5 : another);
        Due.is("waited, rule " + rule, x.walker(0, 3), steps ? 0 : 1);
    }

    private static int pokes(int w, String one, String another) {
        UmbrellaStreet x = Due.told("street " + w + " 5;walker 0 " + one + " 0;walker 1 " + another + " 0");
        x.go(1);
        Due.is("pokes of both", x.walker(1, 2), x.walker(0, 2));
        Due.is("pokes of pairs", x.count(7), x.walker(0, 2));
        return x.walker(0, 2);
    }

    private static void poking() {
        Due.is("beside one another", pokes(4, "0 0 0 5 1", "1 0 0 5 1"), 1);
        Due.is("heights 1 apart", pokes(4, "0 0 0 5 1", "1 0 0 6 1"), 1);
        Due.is("heights 1 apart, down", pokes(4, "0 0 0 5 1", "1 0 0 4 1"), 1);
        Due.is("heights 2 apart", pokes(4, "0 0 0 5 1", "1 0 0 7 1"), 0);
        Due.is("lanes 2 apart, sizes 1", pokes(4, "0 0 0 5 1", "2 0 0 5 1"), 0);
        Due.is("lanes 2 apart, one size 2", pokes(4, "0 0 0 5 1", "2 0 0 5 2"), 1);
        Due.is("lanes 3 apart, sizes 2", pokes(4, "0 0 0 5 2", "3 0 0 5 2"), 0);
        Due.is("no umbrella", pokes(4, "0 0 0 5 0", "1 0 0 5 2"), 0);
        Due.is("no umbrellas", pokes(4, "0 0 0 5 0", "1 0 0 5 0"), 0);
        UmbrellaStreet x = Due.told("street 2 6;walker 0 0 0 0 5 1 0;walker 1 1 1 0 5 1 0;walker 2 0 0 0 5 1 0");
        x.go(2);
        Due.is("places 3 apart, and 1", x.walker(1, 2), 0);
        Due.is("one behind the other", x.walker(2, 2), 1);
        x.go(1);
        Due.is("places 1 apart", x.walker(1, 2), 1);
        Due.is("all pairs", x.count(7), 3);
        x.go(1);
        Due.is("places 1 apart from both", x.walker(1, 2), 3);
        Due.is("all pairs again", x.count(7), 6);
        // Also under awnings.
        x = Due.told("street 2 2;awning 0 0;awning 0 1;walker 0 0 0 0 5 1 0;walker 1 1 0 0 5 1 0");
        x.go(1);
        Due.is("pokes under awnings", x.count(7), 1);
    }

    /** What walker 0, without an umbrella in lane 0, gets of 9 beside others that come with it. */
    private static int wetBeside(String... others) {
        StringBuilder text = new StringBuilder("street 4 5;rain 0 0 9;walker 0 0 0 0 5 0 0");
        for (int i = 0; i < others.length; i++) {
            text.append(";walker ").append(i + 1).append(' ').append(others[i]).append(" 0");
        }
        UmbrellaStreet x = Due.told(text.toString());
        x.go(1);
        return x.walker(0, 1);
    }

    private static void wetBare() {
        Due.is("alone", wetBeside(), 9);
        Due.is("beside one without", wetBeside("1 0 0 5 0"), 9);
        Due.is("at a rim of 1", wetBeside("1 0 0 5 1"), 13);
        Due.is("under a size of 2", wetBeside("1 0 0 5 2"), 0);
        Due.is("at a rim of 2", wetBeside("2 0 0 5 2"), 13);
        Due.is("beyond a size of 1", wetBeside("2 0 0 5 1"), 9);
        Due.is("beyond a size of 2", wetBeside("3 0 0 5 2"), 9);
        Due.is("at two rims", wetBeside("1 0 0 5 1", "2 0 0 5 2"), 17);
        Due.is("under one, at the rim of another", wetBeside("1 0 0 5 2", "2 0 0 5 2"), 0);
        Due.is("the rim first, then over it", wetBeside("2 0 0 5 2", "1 0 0 5 2"), 0);
        Due.is("of one who is not on it yet", wetBeside("1 0 1 5 2"), 9);
        Due.is("at another place", wetBeside("1 1 0 5 2"), 9);
        UmbrellaStreet x = Due.told("awning 1 0;rain 0 1 5;rain 1 1 8;walker 0 0 0 0 5 0 0");
        x.go(1);
        Due.is("rain of tick 0", x.walker(0, 1), 5);
        x.go(1);
        Due.is("under an awning", x.walker(0, 1), 5);
        x.go(1);
        Due.is("no rain of tick 2", x.walker(0, 1), 5);
        x = Due.told("awning 0 0;rain 0 0 9;walker 0 0 0 0 5 2 0;walker 1 1 0 0 5 0 0");
        x.go(1);
        Due.is("an umbrella under an awning is over others too", x.walker(1, 1), 0);
        x = Due.told("awning 0 0;rain 0 0 9;walker 0 0 0 0 5 1 0;walker 1 1 0 0 5 0 0");
        x.go(1);
        Due.is("the rim of an umbrella under an awning", x.walker(1, 1), 13);
        Due.is("its owner is dry", x.walker(0, 1), 0);
    }

    private static void wetWithUmbrella() {
        UmbrellaStreet x = Due.told("street 4 3;rain 0 59 8;walker 0 0 0 0 5 1 0;walker 1 3 0 0 5 2 0");
        x.go(1);
        Due.is("8 by 2", x.walker(0, 1), 4);
        Due.is("8 by 3, cut", x.walker(1, 1), 2);
        x.go(1);
        Due.is("8 by 2 twice", x.walker(0, 1), 8);
        Due.is("8 by 3 twice, each cut", x.walker(1, 1), 4);
        x.go(5);
        Due.is("who is through gets nothing", x.walker(0, 1), 12);
        x = Due.told("street 2 3;awning 0 0;rain 0 59 8;walker 0 0 0 0 5 1 0;walker 1 1 0 0 5 2 0");
        x.go(1);
        Due.is("under an awning", x.walker(0, 1), 0);
        Due.is("beside one", x.walker(1, 1), 2);
        x = Due.told("street 2 3;rain 0 59 9;walker 0 0 0 0 5 1 0;walker 1 1 0 0 5 2 0");
        x.go(1);
        Due.is("who has one gets no rims and no shelter", x.walker(0, 1), 4);
    }

    private static void keeping() {
        UmbrellaStreet x = Due.told("street 2 3;rain 0 59 8;walker 0 0 0 0 5 1 0;walker 1 1 0 0 5 1 0;walker 2 0 1 2 5 1 0");
        Due.is("keep at 0", x.keep(1), 0);
        x.go(4);
        int[][] want = new int[3][5];
        for (int k = 0; k < 3; k++) {
            for (int what = 0; what < 5; what++) {
                want[k][what] = x.walker(k, what);
            }
        }
        int pairs = x.count(7);
        Due.is("pairs", pairs > 0 ? 1 : 0, 1);
        Due.is("keep at 4", x.keep(0), 4);
        x.go(10);
        Due.is("back to 4", x.back(0), 4);
        Due.is("ticks", x.count(4), 4);
        for (int k = 0; k < 3; k++) {
            for (int what = 0; what < 5; what++) {
                Due.is("back: walker " + k + ", " + what, x.walker(k, what), want[k][what]);
            }
        }
        Due.is("back: pairs", x.count(7), pairs);
        x.go(3);
        Due.is("back again to 4", x.back(0), 4);
        Due.is("back to 0", x.back(1), 0);
        Due.is("nobody on", x.count(3), 0);
        Due.is("dry", x.walker(0, 1), 0);
        Due.is("keep over", x.keep(0), 0);
        x.go(60);
        Due.is("back to what was kept last", x.back(0), 0);
        Due.tell(x, "gone 2");
        Due.is("a text forgets 0", x.back(0), NOT);
        Due.is("a text forgets 1", x.back(1), NOT);
        x.keep(1);
        Due.is("the other is not kept", x.back(0), NOT);
    }

    private static void doneOrNot() {
        UmbrellaStreet x = new UmbrellaStreet();
        Due.is("nobody", x.done(), 0);
        Due.tell(x, "street 1 1;walker 0 0 0 0 5 0 0");
        Due.is("one place", x.done(), 2);
        x.go(1);
        Due.is("from tick 0 on", x.done(), 2);
        Due.is("nothing changes", x.count(4), 1);
        Due.is("it is still on", x.walker(0, 0), 0);
        Due.tell(x, "street 1 12;walker 0 0 0 20 5 0 0");
        Due.is("the last start", x.done(), 33);
        Due.tell(x, "street 1 12;walker 0 0 0 20 5 0 0;walker 1 0 1 20 5 0 0");
        Due.is("they block one another", x.done(), NONE);
        Due.tell(x, "street 1 12;walker 0 0 1 0 5 0 0;walker 1 0 0 0 5 0 0");
        Due.is("blocked as well", x.done(), NONE);
        Due.tell(x, "street 1 1;walker 0 0 0 0 5 0 0;walker 1 0 0 0 5 0 0;walker 2 0 1 0 5 0 0");
        Due.is("one behind the other", x.done(), 4);
    }
}
