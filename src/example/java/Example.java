import java.nio.charset.StandardCharsets;

/** Two walkers in the rain, the sizes that suit them, a stop, and a few sums. */
public final class Example {
    public static void main(String[] args) {
        UmbrellaStreet x = new UmbrellaStreet();

        write(x, "street 1 6; walker 0 0 0 0 5 1 0; walker 1 0 0 1 5 0 9");
        say("the rule 9 is a fault at byte", x.fault());
        x.erase();
        write(x, "street 1 6; walker 0 0 0 0 5 1 0; walker 1 0 0 1 5 0 0; rain 0 59 20");
        say("lines done", x.shower());

        say("ticks gone", x.go(3));
        say("walker 0 is at cell", x.walker(0, 0));
        say("and got wet", x.walker(0, 1));
        say("walker 1 got wet", x.walker(1, 1));
        say("ticks till all are through", x.done());
        say("walker 1 would pay with size 2", x.pays(1, 1 | 2 << 2, 7, 3));
        say("sizes that rest", x.rests(7, 3, 0));
        int rest = x.rests(7, 3, 1);
        say("by the first of them walker 1 has size", rest >> 2 & 3);

        x.stand(5, 0, 3);
        x.stand(7, 2, 5);
        say("the one at place 5 is wet", x.wet(0));
        say("the driest free place", x.driest(0));

        say("fairest off the middle", x.fair(5, 4, 6) - 100);
        say("best pace", x.pace(10, 20, 5, 7));
        System.out.println("wet by a step: " + x.run(10, 20, 5, 7, 0, 0) + "/" + x.run(10, 20, 5, 7, 0, 1));
        System.out.println("all of two lost: " + x.left(2, 5, 5, 2, 0) + "/" + x.left(2, 5, 5, 2, 1));
        say("walker 5 is not told", x.walker(5, 0));
    }

    private static void say(String what, int answer) {
        System.out.println(what + ": " + answer);
    }

    /** One call takes eight bytes at most, the first of them in the lowest bits. */
    private static void write(UmbrellaStreet x, String text) {
        byte[] bytes = text.getBytes(StandardCharsets.US_ASCII);
        for (int from = 0; from < bytes.length; from += 8) {
            int n = Math.min(8, bytes.length - from);
            long word = 0;
            for (int i = 0; i < n; i++) {
                word |= (long) bytes[from + i] << 8 * i;
            }
            x.write(word, n);
        }
    }
}
