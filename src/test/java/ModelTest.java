import java.util.Random;
import java.util.TreeMap;

/** All promises: long runs of calls, the same ones each time, answered as the model answers them. */
public final class ModelTest {
    private static final int RUNS = 1500;
    private static final int CALLS = 150;
    private static final String[] NAMES = {"erase", "fault", "shower", "cell", "walker", "go", "keep", "back", "done",
        "pays", "rests", "common", "stand", "bus", "wet", "driest", "two", "fair", "run", "pace", "door", "left",
        "seller", "where", "count", "write"};

    private static final TreeMap<String, Integer> SEEN = new TreeMap<>();
    private static Random random = new Random(1);
    private static UmbrellaStreet x;
    private static Model model;

    public static void main(String[] args) {
        for (int run = 0; run < RUNS; run++) {
            random = new Random(run);
            x = new UmbrellaStreet();
            model = new Model();
            for (int i = 0; i < CALLS; i++) {
                anyCall(run, i);
            }
        }
        seenEnough();
        Due.end();
    }

    /** Each method has answered well, and refused in each way that it has. */
    private static void seenEnough() {
        String[] want = {"erase", "fault", "fault NONE", "shower", "shower NOT", "cell", "cell UNKNOWN", "cell OUTSIDE",
            "walker", "walker UNKNOWN", "walker OUTSIDE", "walker NONE", "go", "go OUTSIDE", "keep", "keep UNKNOWN",
            "back", "back UNKNOWN", "back NOT", "done", "done NONE", "pays", "pays UNKNOWN", "pays OUTSIDE", "pays NOT",
            "rests", "rests OUTSIDE", "rests NOT", "common", "common OUTSIDE", "common NOT", "stand", "stand OUTSIDE",
            "stand NOT", "stand FULL", "bus", "wet", "wet UNKNOWN", "driest", "driest OUTSIDE", "two", "two OUTSIDE",
            "fair", "fair OUTSIDE", "run", "run OUTSIDE", "pace", "pace OUTSIDE", "door", "door OUTSIDE", "left",
            "left OUTSIDE", "seller", "seller UNKNOWN", "seller OUTSIDE", "where", "where OUTSIDE", "count",
            "count OUTSIDE", "write", "write OUTSIDE", "write FULL"};
        for (String w : want) {
            Due.is("seen: " + w, SEEN.getOrDefault(w, 0) >= 20 ? 1 : 0, 1);
        }
    }

    private static void due(int run, int i, String name, long[] a, long got, long want) {
        StringBuilder call = new StringBuilder("run " + run + ", call " + i + ": " + name);
        for (long v : a) {
            call.append(' ').append(v);
        }
        Due.is(call.toString(), got, want);
        String[] refusals = {"", " NONE", " UNKNOWN", " OUTSIDE", " NOT", " FULL"};
        SEEN.merge(name + (want < 0 ? refusals[(int) -want] : ""), 1, Integer::sum);
    }

    private static int pick(int least, int most) {
        int wild = random.nextInt(60);
        if (wild == 0) {
            return random.nextInt();
        }
        if (wild < 3) {
            return wild == 1 ? least - 1 : most + 1;
        }
        return least + random.nextInt(most - least + 1);
    }

    private static int inside(int least, int most) {
        return least + random.nextInt(most - least + 1);
    }

    private static void anyCall(int run, int i) {
        int which = random.nextInt(20);
        if (i == 0 || which == 0) {
            tellSomething(run, i);
        } else if (which == 1) {
            writeNoise(run, i);
        } else if (which < 6) {
            call(run, i, "go", pick(1, random.nextInt(10) == 0 ? 60 : 3));
        } else {
            call(run, i, NAMES[random.nextInt(NAMES.length)]);
        }
    }

    private static void call(int run, int i, String name) {
        int lanes = Math.max(1, x.count(0));
        int places = Math.max(1, x.count(1));
        switch (name) {
            case "cell":
                call(run, i, name, random.nextInt(9) == 0 ? pick(0, 47) : 4 * inside(0, places - 1) + inside(0, lanes - 1), pick(0, 1));
                break;
            case "walker":
                call(run, i, name, pick(0, 5), pick(0, 4));
                break;
            case "keep", "back":
                call(run, i, name, pick(0, 1));
                break;
            case "pays":
                call(run, i, name, pick(0, 5), anySizes(), pick(0, 99), pick(0, 99));
                break;
            case "rests", "common":
                int most = random.nextInt(3) == 0 ? 99 : 20;
                call(run, i, name, pick(0, most), pick(0, most), pick(0, 1));
                break;
            case "stand":
                for (int more = 0; more < 3; more++) {
                    call(run, i, name, pick(0, 19), pick(0, 3), random.nextBoolean() ? pick(0, 9) : 4);
                }
                break;
            case "wet":
                call(run, i, name, pick(0, Math.max(0, x.count(6) - 1)));
                break;
            default:
                otherCall(run, i, name);
        }
    }

    private static void otherCall(int run, int i, String name) {
        switch (name) {
            case "driest":
                call(run, i, name, pick(0, 1));
                break;
            case "two":
                call(run, i, name, pick(1, 9), pick(1, 19), pick(1, 19), pick(-20, 20), pick(0, 1));
                break;
            case "fair":
                call(run, i, name, pick(1, 9), pick(1, 19), pick(1, 19));
                break;
            case "run":
                call(run, i, name, pick(1, 99), pick(1, 99), pick(1, 99), pick(0, 20), pick(0, 20), pick(0, 1));
                break;
            case "pace":
                call(run, i, name, pick(1, 99), pick(1, random.nextBoolean() ? 99 : 9), pick(1, 99), pick(0, 20));
                break;
            case "door":
                call(run, i, name, pick(0, 10), pick(0, 10), random.nextBoolean() ? pick(0, 999) : pick(0, 20), pick(0, 8), pick(0, 2));
                break;
            case "left":
                int n = pick(1, 9);
                call(run, i, name, n, pick(0, 10), pick(0, 10), pick(0, Math.max(0, Math.min(9, n))), pick(0, 1));
                break;
            case "seller":
                call(run, i, name, pick(0, Math.max(0, x.count(1) - 1)), pick(1, 99));
                break;
            case "where":
                call(run, i, name, pick(0, 2));
                break;
            case "count":
                call(run, i, name, pick(0, 7));
                break;
            case "go":
                call(run, i, name, pick(1, 60));
                break;
            case "write":
                writeNoise(run, i);
                break;
            case "erase":
                if (random.nextInt(3) == 0) {
                    call(run, i, name, new long[0]);
                }
                break;
            default:
                call(run, i, name, new long[0]);
        }
    }

    private static int anySizes() {
        int sizes = 0;
        for (int k = 0; k < 4; k++) {
            sizes |= inside(0, 2) << 2 * k;
        }
        return random.nextInt(20) == 0 ? random.nextInt() : sizes;
    }

    private static void call(int run, int i, String name, long... a) {
        int[] n = new int[8];
        for (int j = 0; j < a.length; j++) {
            n[j] = (int) a[j];
        }
        switch (name) {
            case "write" -> due(run, i, name, a, x.write(a[0], n[1]), model.write(a[0], a[1]));
            case "erase" -> due(run, i, name, a, x.erase(), model.erase());
            case "fault" -> due(run, i, name, a, x.fault(), model.fault());
            case "shower" -> due(run, i, name, a, x.shower(), model.shower());
            case "cell" -> due(run, i, name, a, x.cell(n[0], n[1]), model.cell(a[0], a[1]));
            case "walker" -> due(run, i, name, a, x.walker(n[0], n[1]), model.walker(a[0], a[1]));
            case "go" -> due(run, i, name, a, x.go(n[0]), model.go(a[0]));
            case "keep" -> due(run, i, name, a, x.keep(n[0]), model.keep(a[0]));
            case "back" -> due(run, i, name, a, x.back(n[0]), model.back(a[0]));
            case "done" -> due(run, i, name, a, x.done(), model.done());
            case "pays" -> due(run, i, name, a, x.pays(n[0], n[1], n[2], n[3]), model.pays(a[0], a[1], a[2], a[3]));
            case "rests" -> due(run, i, name, a, x.rests(n[0], n[1], n[2]), model.rests(a[0], a[1], a[2]));
            case "common" -> due(run, i, name, a, x.common(n[0], n[1], n[2]), model.common(a[0], a[1], a[2]));
            case "stand" -> due(run, i, name, a, x.stand(n[0], n[1], n[2]), model.stand(a[0], a[1], a[2]));
            case "bus" -> due(run, i, name, a, x.bus(), model.bus());
            case "wet" -> due(run, i, name, a, x.wet(n[0]), model.wet(a[0]));
            case "driest" -> due(run, i, name, a, x.driest(n[0]), model.driest(a[0]));
            case "two" -> due(run, i, name, a, x.two(n[0], n[1], n[2], n[3], n[4]), model.two(a[0], a[1], a[2], a[3], a[4]));
            case "fair" -> due(run, i, name, a, x.fair(n[0], n[1], n[2]), model.fair(a[0], a[1], a[2]));
            case "run" -> due(run, i, name, a, x.run(n[0], n[1], n[2], n[3], n[4], n[5]),
                    model.run(a[0], a[1], a[2], a[3], a[4], a[5]));
            case "pace" -> due(run, i, name, a, x.pace(n[0], n[1], n[2], n[3]), model.pace(a[0], a[1], a[2], a[3]));
            case "door" -> due(run, i, name, a, x.door(n[0], n[1], n[2], n[3], n[4]), model.door(a[0], a[1], a[2], a[3], a[4]));
            case "left" -> due(run, i, name, a, x.left(n[0], n[1], n[2], n[3], n[4]), model.left(a[0], a[1], a[2], a[3], a[4]));
            case "seller" -> due(run, i, name, a, x.seller(n[0], n[1]), model.seller(a[0], a[1]));
            case "where" -> due(run, i, name, a, x.where(n[0]), model.where(a[0]));
            case "count" -> due(run, i, name, a, x.count(n[0]), model.count(a[0]));
            default -> Due.is("a call of " + name, 0, 1);
        }
    }

    private static void put(int run, int i, String text) {
        for (int from = 0; from < text.length(); from += 8) {
            int n = Math.min(8, text.length() - from);
            long word = 0;
            for (int j = 0; j < n; j++) {
                word |= (long) text.charAt(from + j) << 8 * j;
            }
            call(run, i, "write", word, n);
        }
    }

    private static void writeNoise(int run, int i) {
        String[] bits = {"street", "awning", "walker", "gone", "rain", ";", " ", " ", "0", "1", "2", "12", "5", "99", "100", "\u00ff", "x"};
        StringBuilder noise = new StringBuilder();
        for (int j = inside(1, 6); j > 0; j--) {
            noise.append(bits[random.nextInt(bits.length)]);
        }
        put(run, i, noise.toString());
        call(run, i, "fault", new long[0]);
        call(run, i, "write", random.nextLong(), pick(1, 8));
        call(run, i, "fault", new long[0]);
    }

    /** A text as it should be, but for a slip now and then. */
    private static void tellSomething(int run, int i) {
        call(run, i, "erase", new long[0]);
        StringBuilder text = new StringBuilder();
        int w = x.count(0);
        int l = x.count(1);
        int lines = inside(1, 8);
        for (int line = 0; line < lines; line++) {
            text.append(line == 0 ? "" : random.nextInt(9) == 0 ? " ; " : ";");
            int kind = line == 0 ? random.nextInt(3) * 2 : random.nextInt(18);
            if (kind == 0) {
                w = inside(1, 4);
                l = random.nextBoolean() ? inside(1, 4) : inside(1, 12);
                text.append("street ").append(slip(w)).append(' ').append(slip(l));
            } else if (kind < 4) {
                text.append("rain ").append(slip(inside(0, 5))).append(' ').append(slip(inside(5, 59))).append(' ').append(slip(inside(0, 99)));
            } else if (kind < 6) {
                text.append("awning ").append(slip(inside(0, l - 1))).append(' ').append(slip(inside(0, w - 1)));
            } else if (kind == 6) {
                text.append("gone").append(inside(0, 5));
            } else {
                text.append("walker ").append(slip(inside(0, 5))).append(' ').append(slip(inside(0, w - 1))).append(' ')
                        .append(slip(inside(0, 1))).append(' ').append(slip(random.nextInt(4) == 0 ? inside(0, 20) : inside(0, 3)))
                        .append(' ').append(slip(inside(4, 6))).append("  ").append(slip(inside(0, 2))).append(' ').append(slip(inside(0, 2)));
            }
        }
        put(run, i, text.toString());
        call(run, i, "fault", new long[0]);
        call(run, i, "shower", new long[0]);
    }

    private static String slip(int n) {
        int how = random.nextInt(400);
        if (how < 6) {
            return new String[] {"", "100", "x", "-1", "60", ";"}[how];
        }
        return how < 20 && n < 10 ? "0" + n : String.valueOf(n);
    }
}
