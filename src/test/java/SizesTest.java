/** Promises 12 to 14: pays, rests, common. */
public final class SizesTest {
    private static final int NONE = UmbrellaStreet.NONE;
    private static final int UNKNOWN = UmbrellaStreet.UNKNOWN;
    private static final int OUTSIDE = UmbrellaStreet.OUTSIDE;
    private static final int NOT = UmbrellaStreet.NOT;

    public static void main(String[] args) {
        nobody();
        alone();
        twoBeside();
        firstByWalkers();
        noRest();
        refused();
        Due.end();
    }

    private static void nobody() {
        UmbrellaStreet x = new UmbrellaStreet();
        Due.is("nobody pays", x.pays(0, 0, 0, 0), UNKNOWN);
        Due.is("one rest of nobody", x.rests(0, 0, 0), 1);
        Due.is("it is empty", x.rests(0, 0, 1), 0);
        Due.is("common of nobody", x.common(0, 0, 0), 0);
        Due.is("paid by nobody", x.common(0, 0, 1), 0);
    }

    private static void alone() {
        // Three places in a rain of 10: 30 without an umbrella, 15 by 1, 9 by 2.
        UmbrellaStreet x = Due.told("street 1 3;rain 0 59 10;walker 4 0 0 0 5 2 0");
        Due.is("pays by 0", x.pays(4, 0, 7, 99), 30);
        Due.is("pays by 1", x.pays(4, 1, 7, 99), 22);
        Due.is("pays by 2", x.pays(4, 2, 7, 99), 23);
        Due.is("one rest", x.rests(7, 0, 0), 1);
        Due.is("its size", x.rests(7, 0, 1), 1);
        Due.is("common", x.common(7, 0, 0), 1);
        Due.is("paid", x.common(7, 0, 1), 22);
        Due.is("as good by 1 and 2", x.rests(6, 0, 0), 2);
        Due.is("the first of them", x.rests(6, 0, 1), 1);
        Due.is("the least of them", x.common(6, 0, 0), 1);
        Due.is("too dear", x.common(99, 0, 0), 0);
        x.go(2);
        x.pays(4, 0, 0, 0);
        x.rests(0, 0, 0);
        x.common(0, 0, 0);
        Due.is("as told: ticks stay", x.count(4), 2);
        Due.is("as told: wet stays", x.walker(4, 1), 6);
        Due.is("the whole street, not the rest", x.pays(4, 0, 0, 0), 30);
        Due.tell(x, "street 1 2;rain 0 59 1;walker 0 0 0 0 5 0 0;walker 5 0 1 0 5 0 0");
        Due.is("60 ticks, also where nobody gets on", x.pays(0, 0, 0, 0), 60);
        Due.is("all of them", x.common(99, 99, 1), 120);
    }

    private static void twoBeside() {
        UmbrellaStreet x = Due.told("street 2 1;rain 0 59 10;walker 1 0 0 0 5 0 0;walker 3 1 0 0 5 0 0");
        // The sizes are those of the told ones, by their numbers.
        Due.is("both without", x.pays(1, 0, 0, 0), 10);
        Due.is("a rim of the other", x.pays(1, 4, 0, 0), 15);
        Due.is("under the other", x.pays(1, 8, 0, 0), 0);
        Due.is("the other by its 2", x.pays(3, 8, 4, 50), 3 + 8);
        Due.is("both by 1: a poke", x.pays(1, 5, 3, 50), 5 + 3 + 50);
        Due.is("by 1 and 2: a poke of each", x.pays(3, 9, 3, 50), 3 + 6 + 50);
        Due.is("bits behind the told ones say nothing", x.pays(1, 16 + 32 + 64, 0, 0), 10);
        // By (0, 2) and (2, 0) nobody pays less alone; by (0, 0) one at 2 pays 3, not 10.
        Due.is("rests", x.rests(0, 1, 0), 2);
        Due.is("the first: 0 of walker 1", x.rests(0, 1, 1), 8);
        Due.is("common 2", x.common(0, 1, 0), 2);
        Due.is("paid together", x.common(0, 1, 1), 2 * (3 + 1));
        Due.is("a poke too dear", x.common(0, 99, 0), 0);
    }

    private static void firstByWalkers() {
        // Three at one place: the first rest has the least size of the lowest number, whatever its bits.
        UmbrellaStreet x = Due.told("street 3 1;rain 0 59 12;walker 0 0 0 0 5 0 0;walker 2 1 0 0 5 0 0;walker 5 2 0 0 5 0 0");
        // 0 2 0 shelters all, but 0 0 2 is a rest as well: walker 0 at its rim pays 18, and more by a poke.
        Due.is("paid at the rim", x.pays(0, 2 << 4, 0, 20), 18);
        Due.is("paid by a poke", x.pays(0, 2 << 4 | 2, 0, 20), 4 + 20);
        // And 1 0 1, whose two are not beside one another: the one between them has two rims, and pays 24.
        Due.is("all rests", x.rests(0, 20, 0), 4);
        Due.is("the first", x.rests(0, 20, 1), 2 << 4);
    }

    private static void noRest() {
        // Found by search: by each of the 27 sizes somebody pays less by another one.
        UmbrellaStreet x = Due.told("street 3 3;rain 0 59 64;walker 0 2 1 1 6 0 1;walker 1 0 1 1 6 0 2;walker 2 0 0 2 4 0 2");
        Due.is("no rest at all", x.rests(43, 3, 0), 0);
        Due.is("so none is the first", x.rests(43, 3, 1), NONE);
    }

    private static void refused() {
        UmbrellaStreet x = Due.told("street 2 6;walker 0 0 0 0 5 0 0;walker 1 0 0 1 5 0 0;walker 2 0 0 2 5 0 0;walker 4 0 0 3 5 0 0");
        Due.is("not told", x.pays(3, 3, 100, 100), UNKNOWN);
        Due.is("no walker", x.pays(6, 0, 0, 0), UNKNOWN);
        Due.is("no walker -1", x.pays(-1, 0, 0, 0), UNKNOWN);
        Due.is("size 3 of the first", x.pays(0, 3, 0, 0), OUTSIDE);
        Due.is("size 3 of the second", x.pays(0, 12, 0, 0), OUTSIDE);
        Due.is("size 3 of the third", x.pays(0, 48, 0, 0), OUTSIDE);
        Due.is("size 3 of the last", x.pays(0, 192, 0, 0), OUTSIDE);
        Due.is("sizes of 2", x.pays(0, 170, 0, 0), 0);
        Due.is("c 100", x.pays(0, 0, 100, 0), OUTSIDE);
        Due.is("c -1", x.pays(0, 0, -1, 0), OUTSIDE);
        Due.is("p 100", x.pays(0, 0, 0, 100), OUTSIDE);
        Due.is("p -1", x.pays(0, 0, 0, -1), OUTSIDE);
        Due.is("four are not too many", x.rests(1, 1, 0), 1);
        Due.is("four, by 0", x.common(1, 0, 0), 0);
        Due.is("four, paid", x.common(1, 0, 1), 0);
        refusedCosts(x);
        Due.tell(x, "walker 5 0 0 3 5 0 0");
        Due.is("five: pays", x.pays(0, 0, 0, 0), NOT);
        Due.is("five: unknown first", x.pays(3, 0, 0, 0), UNKNOWN);
        Due.is("five: outside first", x.pays(0, 3, 0, 0), OUTSIDE);
        Due.is("five: rests", x.rests(0, 0, 0), NOT);
        Due.is("five: common", x.common(0, 0, 0), NOT);
        refusedCosts(x);
        Due.tell(x, "gone 0");
        Due.is("four again", x.rests(0, 0, 0), 81);
    }

    private static void refusedCosts(UmbrellaStreet x) {
        int[][] wrong = {{100, 0, 0}, {-1, 0, 0}, {0, 100, 0}, {0, -1, 0}, {0, 0, 2}, {0, 0, -1}};
        for (int[] w : wrong) {
            Due.is("rests refused", x.rests(w[0], w[1], w[2]), OUTSIDE);
            Due.is("common refused", x.common(w[0], w[1], w[2]), OUTSIDE);
        }
    }
}
