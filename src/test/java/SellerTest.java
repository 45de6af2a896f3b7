/** Promises 25 and 26: seller, where. */
public final class SellerTest {
    private static final int UNKNOWN = UmbrellaStreet.UNKNOWN;
    private static final int OUTSIDE = UmbrellaStreet.OUTSIDE;

    public static void main(String[] args) {
        oneWalker();
        whoBuys();
        firstTick();
        bestPlaces();
        Due.end();
    }

    private static void oneWalker() {
        // 10 at each of three places: behind the tick at place 0 come 20 more, at 1 10, at 2 none.
        UmbrellaStreet x = Due.told("street 1 3;rain 0 59 10;walker 0 0 0 0 5 0 0");
        Due.is("at 0 for 20", x.seller(0, 20), 20);
        Due.is("at 0 for 21", x.seller(0, 21), 0);
        Due.is("at 1 for 10", x.seller(1, 10), 10);
        Due.is("at 1 for 11", x.seller(1, 11), 0);
        Due.is("at 2 for 1", x.seller(2, 1), 0);
        Due.is("place 3", x.seller(3, 1), UNKNOWN);
        Due.is("place -1", x.seller(-1, 1), UNKNOWN);
        Due.is("place 3 for 0", x.seller(3, 0), UNKNOWN);
        Due.is("for 0", x.seller(0, 0), OUTSIDE);
        Due.is("for 100", x.seller(0, 100), OUTSIDE);
        Due.is("where", x.where(0), 0);
        Due.is("price", x.where(1), 20);
        Due.is("what comes in", x.where(2), 20);
        Due.is("where 3", x.where(3), OUTSIDE);
        Due.is("where -1", x.where(-1), OUTSIDE);
        x.go(2);
        Due.is("from tick 0 on", x.seller(0, 20), 20);
        x.where(0);
        Due.is("nothing changes", x.count(4), 2);
        Due.is("where it is", x.walker(0, 0), 4);
    }

    private static void whoBuys() {
        // Way 1 comes to place 0 last; one with an umbrella never buys.
        UmbrellaStreet x = Due.told("street 4 3;rain 0 59 10;walker 0 0 0 0 5 0 0;walker 1 1 1 0 5 0 0;walker 2 3 0 0 5 1 0");
        Due.is("at 1 two buy", x.seller(1, 10), 20);
        Due.is("at 1 nobody", x.seller(1, 11), 0);
        Due.is("at 0 one buys", x.seller(0, 10), 10);
        Due.is("at 2 the other", x.seller(2, 20), 20);
        Due.is("as good at 0 for 20, 1 for 10, 2 for 20", x.where(0), 0);
        Due.is("its price", x.where(1), 20);
        Due.is("what comes in", x.where(2), 20);
        x = Due.told("street 1 1;walker 0 0 0 0 5 0 0");
        Due.is("no rain: the least place", x.where(0), 0);
        Due.is("no rain: the least price", x.where(1), 1);
        Due.is("no rain: nothing", x.where(2), 0);
    }

    private static void firstTick() {
        // Both stay, at places 1 and 2, from tick 1 on: 58 ticks more behind the first one there.
        UmbrellaStreet x = Due.told("street 1 4;rain 0 59 1;walker 0 0 0 0 5 0 0;walker 1 0 1 0 5 0 0");
        Due.is("behind the first tick there", x.seller(1, 58), 58);
        Due.is("no more", x.seller(1, 59), 0);
        Due.is("at 0, behind tick 0", x.seller(0, 59), 59);
        Due.is("at 0, no more", x.seller(0, 60), 0);
        Due.is("where", x.where(0), 0);
        Due.is("for", x.where(1), 59);
    }

    private static void bestPlaces() {
        // Place 1 is where both ways have two left; two at 10 are less than one at 30.
        UmbrellaStreet x = Due.told("street 2 4;rain 0 59 10;walker 0 0 0 0 5 0 0;walker 1 1 0 0 5 0 0");
        Due.is("two for 30 each", x.where(2), 60);
        Due.is("at 0", x.where(0), 0);
        Due.is("for 30", x.where(1), 30);
        x = Due.told("street 1 4;rain 0 59 0;rain 2 9 9;walker 0 0 0 0 5 0 0");
        // Ticks 2 and 3 at places 2 and 3: 18 from 0 or 1 on.
        Due.is("of several the least place", x.where(0), 0);
        Due.is("for 18", x.where(1), 18);
        x = Due.told("street 1 12;rain 0 59 99;walker 0 0 0 0 5 0 0");
        Due.is("at place 10, one tick ahead of the last", x.seller(10, 99), 99);
        Due.is("at place 11, the last one", x.seller(11, 1), 0);
        Due.is("no dearer than 99", x.where(1), 99);
        Due.is("99 comes in", x.where(2), 99);
    }
}
