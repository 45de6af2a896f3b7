/** The edges of promises 15 to 18: who can stand at a stop, and where the water of umbrellas runs. */
public final class StopEdgeTest {
    private static final int UNKNOWN = UmbrellaStreet.UNKNOWN;
    private static final int OUTSIDE = UmbrellaStreet.OUTSIDE;
    private static final int NOT = UmbrellaStreet.NOT;
    private static final int FULL = UmbrellaStreet.FULL;
    private static final int[] FAR = {Integer.MIN_VALUE, -100, Integer.MAX_VALUE};

    public static void main(String[] args) {
        numbersOfOne();
        refusedFirst();
        upToEight();
        emptied();
        driestOfNobody();
        driestBesideMany();
        coversBySize();
        rimsAtTheEnds();
        heightsApart();
        eightDeep();
        askedAgain();
        Due.end();
    }

    private static void numbersOfOne() {
        for (int place = 0; place < 20; place++) {
            for (int size = 0; size < 4; size++) {
                for (int height = 0; height < 10; height++) {
                    UmbrellaStreet x = new UmbrellaStreet();
                    Due.is("stand " + place + " " + size + " " + height, x.stand(place, size, height), 1);
                    Due.is("it is WET", x.wet(0), size == 0 ? 1024 : 0);
                }
            }
        }
        UmbrellaStreet x = new UmbrellaStreet();
        for (int place : new int[] {-2, -1, 20, 21}) {
            Due.is("place " + place, x.stand(place, 0, 0), OUTSIDE);
        }
        for (int size : new int[] {-2, -1, 4, 5}) {
            Due.is("size " + size, x.stand(0, size, 0), OUTSIDE);
        }
        for (int height : new int[] {-2, -1, 10, 11}) {
            Due.is("height " + height, x.stand(0, 0, height), OUTSIDE);
        }
        for (int far : FAR) {
            Due.is("place " + far, x.stand(far, 0, 0), OUTSIDE);
            Due.is("size " + far, x.stand(0, far, 0), OUTSIDE);
            Due.is("height " + far, x.stand(0, 0, far), OUTSIDE);
            Due.is("wet " + far, x.wet(far), UNKNOWN);
            Due.is("driest " + far, x.driest(far), OUTSIDE);
        }
        Due.is("none of them stands", x.count(6), 0);
    }

    private static void refusedFirst() {
        UmbrellaStreet x = new UmbrellaStreet();
        x.stand(5, 0, 0);
        Due.is("outside, and somebody is there: size", x.stand(5, 4, 0), OUTSIDE);
        Due.is("outside, and somebody is there: height", x.stand(5, 0, -1), OUTSIDE);
        Due.is("somebody is there", x.stand(5, 3, 9), NOT);
        Due.is("nobody more stands", x.count(6), 1);
        Due.is("who is there stays as it is", x.wet(0), 1024);
        for (int place = 12; place < 19; place++) {
            x.stand(place, 0, 0);
        }
        Due.is("outside, somebody there and full", x.stand(5, 0, 10), OUTSIDE);
        Due.is("outside and full: place", x.stand(20, 0, 0), OUTSIDE);
        Due.is("outside and full: size", x.stand(0, 4, 0), OUTSIDE);
        Due.is("somebody there and full: the first", x.stand(5, 0, 0), NOT);
        Due.is("somebody there and full: the eighth", x.stand(18, 0, 0), NOT);
        Due.is("full", x.stand(0, 0, 0), FULL);
        Due.is("eight stand", x.count(6), 8);
    }

    private static void upToEight() {
        UmbrellaStreet x = new UmbrellaStreet();
        for (int many = 0; many < 8; many++) {
            for (int one = -2; one < 10; one++) {
                Due.is("one " + one + " of " + many, x.wet(one), one >= 0 && one < many ? 1024 : UNKNOWN);
            }
            Due.is("as many as there are", x.count(6), many);
            Due.is("one more", x.stand(19 - many, 0, 0), many + 1);
        }
        Due.is("the eighth, 7", x.wet(7), 1024);
        Due.is("no ninth, 8", x.wet(8), UNKNOWN);
        Due.is("full", x.stand(0, 0, 0), FULL);
        Due.is("a free place is free still", x.driest(0), 0);
    }

    private static void emptied() {
        for (int many = 0; many <= 8; many++) {
            UmbrellaStreet x = new UmbrellaStreet();
            for (int i = 0; i < many; i++) {
                x.stand(2 * i, 3, 9);
            }
            Due.is("bus of " + many, x.bus(), many);
            Due.is("nobody is left", x.bus(), 0);
            Due.is("nobody is known", x.wet(0), UNKNOWN);
            Due.is("no umbrella is left", x.driest(1), 1024);
            Due.is("no PLACE is taken", x.driest(0), 0);
            for (int i = 0; i < 8; i++) {
                Due.is("there is room for eight again", x.stand(2 * i, 0, 0), i + 1);
            }
            Due.is("and for no more", x.stand(19, 0, 0), FULL);
        }
    }

    private static void driestOfNobody() {
        UmbrellaStreet x = new UmbrellaStreet();
        Due.is("the least of 20 like ones", x.driest(0), 0);
        Due.is("how WET", x.driest(1), 1024);
        for (int what : new int[] {-2, -1, 2, 3}) {
            Due.is("driest " + what, x.driest(what), OUTSIDE);
        }
        for (int i = 0; i < 8; i++) {
            x.stand(i, 0, 0);
            Due.is("the least free one", x.driest(0), i + 1);
            Due.is("as WET as all", x.driest(1), 1024);
        }
        // The last PLACE alone is dry.
        x.bus();
        x.stand(18, 2, 0);
        x.stand(17, 0, 0);
        Due.is("the last PLACE", x.driest(0), 19);
        Due.is("it is dry", x.driest(1), 0);
    }

    private static void driestBesideMany() {
        // All PLACES are covered but some; who stands on the dry ones leaves the next ones.
        UmbrellaStreet x = new UmbrellaStreet();
        x.stand(1, 2, 9);
        Due.is("0 and 2 are dry", x.driest(0), 0);
        x.stand(0, 0, 0);
        Due.is("0 is taken", x.driest(0), 2);
        Due.is("2 is dry", x.driest(1), 0);
        x.stand(2, 0, 0);
        Due.is("3 has a rim, 4 has none", x.driest(0), 4);
        Due.is("so it rains there", x.driest(1), 1024);
    }

    private static void coversBySize() {
        for (int size = 0; size < 4; size++) {
            for (int off = 0; off < 6; off++) {
                UmbrellaStreet x = new UmbrellaStreet();
                x.stand(10, size, 0);
                int rim = 1024 + (2 * size - 1) * 512;
                int want = off < size ? 0 : off == size && size > 0 ? rim : 1024;
                if (off > 0) {
                    x.stand(10 - off, 0, 9);
                    x.stand(10 + off, 0, 9);
                    Due.is("SIZE " + size + ", " + off + " to the one side", x.wet(1), want);
                    Due.is("SIZE " + size + ", " + off + " to the other side", x.wet(2), want);
                } else {
                    Due.is("SIZE " + size + ", under it", x.wet(0), size == 0 ? 1024 : 0);
                }
            }
        }
    }

    private static void rimsAtTheEnds() {
        for (int size = 1; size < 4; size++) {
            for (int place = 0; place < 20; place++) {
                UmbrellaStreet x = new UmbrellaStreet();
                x.stand(place, size, 5);
                int over = Math.min(19, place + size - 1) - Math.max(0, place - size + 1) + 1;
                for (int rim : new int[] {place - size, place + size}) {
                    if (rim >= 0 && rim < 20) {
                        int many = x.stand(rim, 0, 0);
                        Due.is("rim at " + rim + " of SIZE " + size + " at " + place, x.wet(many - 1), 1024 + over * 512);
                    }
                }
            }
        }
    }

    private static void heightsApart() {
        for (int one = 0; one < 10; one++) {
            for (int another = 0; another < 10; another++) {
                UmbrellaStreet x = new UmbrellaStreet();
                x.stand(10, 1, one);
                x.stand(11, 1, another);
                // The higher one, of like ones the later one, runs off onto the lower one, not the other way round.
                boolean isLaterHigher = another >= one;
                Due.is(one + " beside " + another + ", one", x.wet(0), isLaterHigher ? 0 : 512 + 256);
                Due.is(one + " beside " + another + ", another", x.wet(1), isLaterHigher ? 512 + 256 : 0);
                // Where both are, the rain falls on the higher one alone.
                x.bus();
                x.stand(10, 2, one);
                x.stand(11, 2, another);
                // Of the higher one's 3072 half runs off onto the lower one, which has 1024 of its own.
                x.stand(isLaterHigher ? 8 : 13, 0, 0);
                Due.is(one + " over " + another, x.wet(2), 1024 + (1024 + 1536) / 2);
            }
        }
    }

    /** Umbrellas of SIZE 1 side by side from PLACE 0 on, each lower than the one ahead of it. */
    private static UmbrellaStreet stairs(int many) {
        UmbrellaStreet x = new UmbrellaStreet();
        for (int i = 0; i < many; i++) {
            x.stand(i, 1, 9 - i);
        }
        return x;
    }

    /** What falls on the last one of stairs: 1024, and half of what falls on the one ahead. */
    private static int fallsOn(int many) {
        return many == 0 ? 0 : 1024 + fallsOn(many - 1) / 2;
    }

    private static void eightDeep() {
        for (int many = 1; many <= 8; many++) {
            UmbrellaStreet x = stairs(many);
            Due.is("nothing runs up to the last of " + many, x.wet(many - 1), 0);
            for (int i = 0; i < many - 1; i++) {
                Due.is("from the next lower one, " + i + " of " + many, x.wet(i), fallsOn(i + 2) / 2);
            }
            if (many < 8) {
                x.stand(many, 0, 9);
                Due.is("at the rim of the last of " + many, x.wet(many), 1024 + fallsOn(many) / 2);
            }
        }
        // Of like HEIGHTS the later ones are higher.
        UmbrellaStreet x = new UmbrellaStreet();
        for (int i = 7; i >= 0; i--) {
            x.stand(i, 1, 0);
        }
        Due.is("the lowest is the first, at PLACE 7", x.wet(0), 0);
        Due.is("it runs off onto the owner of the second, at PLACE 6", x.wet(1), fallsOn(8) / 2);
    }

    private static void askedAgain() {
        UmbrellaStreet x = new UmbrellaStreet();
        x.stand(5, 2, 8);
        x.stand(7, 1, 3);
        x.stand(8, 0, 0);
        for (int i = 0; i < 3; i++) {
            Due.is("wet of 0, again", x.wet(0), 0);
            Due.is("wet of 2, again", x.wet(2), 1024 + 1280);
            Due.is("driest, again", x.driest(0), 4);
            Due.is("how wet, again", x.driest(1), 0);
        }
        Due.is("three stand", x.count(6), 3);
        // THE STREET and THE STOP have nothing to do with one another.
        Due.tell(x, "street 1 1;rain 0 59 99;walker 0 0 0 0 5 0 0");
        x.go(60);
        Due.is("wet behind a street", x.wet(2), 1024 + 1280);
        Due.is("bus", x.bus(), 3);
        Due.is("TICKS stay behind a bus", x.count(4), 60);
        Due.is("walkers stay behind a bus", x.walker(0, 1), 99);
    }
}
