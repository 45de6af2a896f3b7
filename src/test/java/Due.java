import java.nio.charset.StandardCharsets;

/** What the project's tests share: answers compared with those that are due, and texts put in. */
final class Due {
    private static int wrong = 0;

    private Due() {
    }

    static void is(String call, long got, long want) {
        if (got != want) {
            wrong++;
            System.out.println(call + " answered " + got + ", due is " + want);
        }
    }

    static void end() {
        if (wrong != 0) {
            System.out.println(wrong + " answers are not as due");
            System.exit(1);
        }
    }

    /** Writes a text of signs 0 to 255; what the last write answered. */
    static int put(UmbrellaStreet x, String text) {
        byte[] bytes = text.getBytes(StandardCharsets.ISO_8859_1);
        int answer = x.count(5);
        for (int from = 0; from < bytes.length; from += 8) {
            int n = Math.min(8, bytes.length - from);
            long word = 0;
            for (int i = 0; i < n; i++) {
                word |= (bytes[from + i] & 255L) << 8 * i;
            }
            answer = x.write(word, n);
        }
        return answer;
    }

    static void tell(UmbrellaStreet x, String text) {
        put(x, text);
        is("shower of " + text, x.shower(), text.chars().filter(c -> c == ';').count() + 1);
    }

    static UmbrellaStreet told(String text) {
        UmbrellaStreet x = new UmbrellaStreet();
        tell(x, text);
        return x;
    }
}
