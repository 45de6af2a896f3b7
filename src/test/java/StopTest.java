/** Promises 15 to 18: stand, bus, wet, driest. */
public final class StopTest {
    private static final int UNKNOWN = UmbrellaStreet.UNKNOWN;
    private static final int OUTSIDE = UmbrellaStreet.OUTSIDE;
    private static final int NOT = UmbrellaStreet.NOT;
    private static final int FULL = UmbrellaStreet.FULL;

    public static void main(String[] args) {
        standing();
        oneUmbrella();
        chains();
        eightUmbrellas();
        likeHeights();
        beyondTheEnds();
        Due.end();
    }

    private static void standing() {
        UmbrellaStreet x = new UmbrellaStreet();
        Due.is("place -1", x.stand(-1, 0, 0), OUTSIDE);
        Due.is("place 20", x.stand(20, 0, 0), OUTSIDE);
        Due.is("size -1", x.stand(0, -1, 0), OUTSIDE);
        Due.is("size 4", x.stand(0, 4, 0), OUTSIDE);
        Due.is("height -1", x.stand(0, 0, -1), OUTSIDE);
        Due.is("height 10", x.stand(0, 0, 10), OUTSIDE);
        Due.is("nobody", x.count(6), 0);
        Due.is("wet of nobody", x.wet(0), UNKNOWN);
        Due.is("driest what 2", x.driest(2), OUTSIDE);
        Due.is("driest what -1", x.driest(-1), OUTSIDE);
        Due.is("all places alike: the least", x.driest(0), 0);
        Due.is("in the rain", x.driest(1), 1024);
        for (int i = 0; i < 8; i++) {
            Due.is("one more", x.stand(i, 0, 9), i + 1);
        }
        Due.is("eight are enough", x.stand(9, 0, 0), FULL);
        Due.is("somebody is there, first", x.stand(7, 0, 0), NOT);
        Due.is("outside, first", x.stand(7, 0, 10), OUTSIDE);
        Due.is("eight", x.count(6), 8);
        Due.is("the eighth", x.wet(7), 1024);
        Due.is("no ninth", x.wet(8), UNKNOWN);
        Due.is("none of -1", x.wet(-1), UNKNOWN);
        Due.is("the least free place", x.driest(0), 8);
        Due.tell(x, "street 1 1");
        Due.is("a text changes no stop", x.count(6), 8);
        Due.is("bus", x.bus(), 8);
        Due.is("bus again", x.bus(), 0);
        Due.is("gone with it", x.wet(0), UNKNOWN);
        Due.is("free again", x.stand(7, 0, 0), 1);
        Due.is("taken", x.stand(7, 0, 0), NOT);
    }

    /** How wet each place is for one more, found by one without an umbrella who stands there. */
    private static void row(String what, int[][] people, int... want) {
        for (int place = 0; place < 20; place++) {
            UmbrellaStreet x = new UmbrellaStreet();
            for (int[] one : people) {
                x.stand(one[0], one[1], one[2]);
            }
            int many = x.count(6);
            if (x.stand(place, 0, 0) == many + 1) {
                Due.is(what + ": place " + place, x.wet(many), want[place]);
            } else {
                int one = 0;
                while (people[one][0] != place) {
                    one++;
                }
                Due.is(what + ": the one at " + place, x.wet(one), want[place]);
            }
        }
    }

    private static void oneUmbrella() {
        int r = 1024;
        row("size 0", new int[][] {{3, 0, 5}}, r, r, r, r, r, r, r, r, r, r, r, r, r, r, r, r, r, r, r, r);
        row("size 1", new int[][] {{3, 1, 5}}, r, r, r + 512, 0, r + 512, r, r, r, r, r, r, r, r, r, r, r, r, r, r, r);
        row("size 2", new int[][] {{3, 2, 5}}, r, r + 1536, 0, 0, 0, r + 1536, r, r, r, r, r, r, r, r, r, r, r, r, r, r);
        row("size 3", new int[][] {{3, 3, 5}}, r + 2560, 0, 0, 0, 0, 0, r + 2560, r, r, r, r, r, r, r, r, r, r, r, r, r);
        UmbrellaStreet x = new UmbrellaStreet();
        x.stand(3, 3, 5);
        Due.is("the driest", x.driest(0), 1);
        Due.is("dry", x.driest(1), 0);
        x.bus();
        x.stand(0, 1, 5);
        Due.is("the driest is free", x.driest(0), 2);
        Due.is("no rim there", x.driest(1), 1024);
    }

    private static void chains() {
        int r = 1024;
        // 5 (over 4 to 6) runs off at 3 and 7; 7 (over 7) at 6 and 8: at 6 no lower one is.
        row("onto a lower one", new int[][] {{5, 2, 8}, {7, 1, 3}},
                r, r, r, r + 1536, 0, 0, 1280, 0, r + 1280, r, r, r, r, r, r, r, r, r, r, r);
        // The same with 7 higher: it runs off at 6 onto 5, and 5 at 7 onto who stands there.
        row("from a higher one", new int[][] {{5, 2, 3}, {7, 1, 8}},
                r, r, r, r + 1792, 0, 0, 0, 1792, r + 512, r, r, r, r, r, r, r, r, r, r, r);
        // Rain falls on the highest only.
        row("the highest over a place", new int[][] {{5, 3, 9}, {6, 1, 4}, {4, 1, 2}},
                r, r, r + 2560, 0, 0, 0, 0, 0, r + 2560, r, r, r, r, r, r, r, r, r, r, r);
    }

    private static void eightUmbrellas() {
        UmbrellaStreet x = new UmbrellaStreet();
        for (int i = 0; i < 6; i++) {
            x.stand(2 * i, 1, 9);
        }
        x.stand(14, 1, 0);
        x.stand(15, 1, 5);
        // 15 runs off at 14, by 512, and the lowest of all, by half of 1536, onto who stands at 15.
        Due.is("the lowest of eight runs off too", x.wet(7), 768);
        Due.is("nothing runs onto the owner of the lowest", x.wet(6), 0);
        Due.is("the driest beside eight", x.driest(0), 12);
        Due.is("in the rain alone", x.driest(1), 1024);
    }

    private static void likeHeights() {
        int r = 1024;
        // Of like ones the later is higher: 7 runs off at 6 onto 5.
        row("the later is higher", new int[][] {{5, 2, 3}, {7, 1, 3}},
                r, r, r, r + 1792, 0, 0, 0, 1792, r + 512, r, r, r, r, r, r, r, r, r, r, r);
        row("the other order", new int[][] {{7, 1, 3}, {5, 2, 3}},
                r, r, r, r + 1536, 0, 0, 1280, 0, r + 1280, r, r, r, r, r, r, r, r, r, r, r);
    }

    private static void beyondTheEnds() {
        int r = 1024;
        row("beyond 0", new int[][] {{0, 2, 3}}, 0, 0, r + 1024, r, r, r, r, r, r, r, r, r, r, r, r, r, r, r, r, r);
        row("beyond 19", new int[][] {{19, 3, 3}}, r, r, r, r, r, r, r, r, r, r, r, r, r, r, r, r, r + 1536, 0, 0, 0);
    }
}
