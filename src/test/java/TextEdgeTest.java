/** The edges of promises 2 to 5: THE TEXT, its bytes, its LINES, their numbers, and what a text that is done leaves. */
public final class TextEdgeTest {
    private static final int NONE = UmbrellaStreet.NONE;
    private static final int UNKNOWN = UmbrellaStreet.UNKNOWN;
    private static final int OUTSIDE = UmbrellaStreet.OUTSIDE;
    private static final int NOT = UmbrellaStreet.NOT;
    private static final int FULL = UmbrellaStreet.FULL;
    /** One LINE of each kind, each number 1 but where 1 says nothing: as many TOKENS as it has. */
    private static final String[] LINES = {"street 1 1", "awning 1 1", "walker 1 1 1 1 1 1 1", "gone 1", "rain 1 1 1"};

    public static void main(String[] args) {
        bytesOfAWrite();
        upTo200();
        erased();
        numbersOfStreets();
        numbersOfAwnings();
        numbersOfWalkers();
        numbersOfGoneAndRain();
        threeDigits();
        endsTooSoon();
        wrongTokens();
        everyByte();
        blanks();
        oneToEightLines();
        readingChangesNothing();
        linesInTheirOrder();
        whatStays();
        behindAText();
        rainFromTo();
        Due.end();
    }

    private static void faultIs(String text, int want) {
        UmbrellaStreet x = new UmbrellaStreet();
        Due.put(x, text);
        Due.is("fault of '" + text + "'", x.fault(), want);
        int lines = text.split(";", -1).length;
        Due.is("shower of '" + text + "'", x.shower(), want == NONE ? lines : NOT);
    }

    /** Of 0 .. 99, in one digit and in two, least to most can stand between what is ahead and behind, no others. */
    private static void numberIs(String ahead, int least, int most, String behind) {
        for (int number = 0; number < 100; number++) {
            boolean canStand = number >= least && number <= most;
            faultIs(ahead + number + behind, canStand ? NONE : ahead.length());
        }
        for (int number = 0; number < 10; number++) {
            boolean canStand = number >= least && number <= most;
            faultIs(ahead + "0" + number + behind, canStand ? NONE : ahead.length());
        }
    }

    // ---- bytes

    private static void bytesOfAWrite() {
        for (int n = 1; n <= 8; n++) {
            UmbrellaStreet x = new UmbrellaStreet();
            Due.is("write of " + n, x.write(-1L, n), n);
            Due.is("bytes after a write of " + n, x.count(5), n);
            Due.is("erase after a write of " + n, x.erase(), n);
        }
        // The lowest byte is the first one, the highest (also where it makes the number negative) the eighth.
        String text = "gone  5;";
        long word = 0;
        for (int i = 7; i >= 0; i--) {
            word = word << 8 | text.charAt(i);
        }
        for (int n = 1; n <= 8; n++) {
            UmbrellaStreet x = new UmbrellaStreet();
            x.write(word, n);
            int[] faults = {0, 0, 0, 4, 5, 6, NONE, 8};
            Due.is("fault of its first " + n, x.fault(), faults[n - 1]);
        }
        UmbrellaStreet x = new UmbrellaStreet();
        x.write(word & 0xffffffffffffffL | 0xffL << 56, 8);
        Due.is("the eighth byte is 255", x.fault(), 7);
    }

    private static void upTo200() {
        for (int n = 1; n <= 8; n++) {
            UmbrellaStreet x = new UmbrellaStreet();
            Due.put(x, " ".repeat(200 - n));
            if (n < 8) {
                Due.is("201 bytes by " + (n + 1), x.write(0x2020202020202020L, n + 1), FULL);
            }
            Due.is("none of them is written", x.count(5), 200 - n);
            Due.is("none of them is read", x.fault(), 200 - n);
            Due.is("200 bytes by " + n, x.write(0x2020202020202020L, n), 200);
            Due.is("200 is full", x.write(0x20L, 1), FULL);
            Due.is("and stays", x.count(5), 200);
        }
        UmbrellaStreet x = new UmbrellaStreet();
        Due.put(x, " ".repeat(194) + "gone 5");
        Due.is("all 200 are read", x.fault(), NONE);
        Due.is("0 bytes of a full one", x.write(0, 0), OUTSIDE);
        Due.is("9 bytes of a full one", x.write(0, 9), OUTSIDE);
        Due.is("the 200 stand", x.shower(), 1);
        Due.is("there is room again", x.write(0, 8), 8);
    }

    private static void erased() {
        UmbrellaStreet x = new UmbrellaStreet();
        Due.is("erase of none", x.erase(), 0);
        Due.put(x, "gone 0;gone 1;x");
        Due.is("erase of 15", x.erase(), 15);
        Due.is("none are left", x.erase(), 0);
        Due.is("an empty text ends too soon", x.fault(), 0);
        Due.put(x, "gone 0");
        Due.is("what was there is not read again", x.shower(), 1);
        Due.is("the text is empty behind its shower", x.erase(), 0);
        Due.is("so it can not be done again", x.shower(), NOT);
    }

    // ---- numbers

    private static void numbersOfStreets() {
        numberIs("street ", 1, 4, " 6");
        numberIs("street 2 ", 1, 12, "");
        for (int w = 1; w <= 4; w++) {
            for (int l = 1; l <= 12; l++) {
                String street = "street " + w + " " + l;
                UmbrellaStreet x = Due.told(street);
                Due.is(street + ": lanes", x.count(0), w);
                Due.is(street + ": places", x.count(1), l);
                for (int cell = -1; cell < 50; cell++) {
                    boolean isThere = cell >= 0 && cell / 4 < l && cell % 4 < w;
                    Due.is(street + ": cell " + cell, x.cell(cell, 0), isThere ? 0 : UNKNOWN);
                }
            }
        }
    }

    private static void numbersOfAwnings() {
        numberIs("awning ", 0, 5, " 0");
        numberIs("awning 0 ", 0, 1, "");
        for (int w = 1; w <= 4; w++) {
            numberIs("street " + w + " 12;awning 0 ", 0, w - 1, "");
        }
        for (int l = 1; l <= 12; l++) {
            numberIs("street 1 " + l + ";awning ", 0, l - 1, " 0");
        }
        UmbrellaStreet x = Due.told("street 4 12");
        for (int cell = 0; cell < 48; cell++) {
            Due.tell(x, "street 4 12;awning " + cell / 4 + " " + cell % 4);
            Due.is("awning at " + cell, x.cell(cell, 0), 1);
            Due.is("open beside it", x.cell(cell == 0 ? 1 : cell - 1, 0), 0);
        }
    }

    private static void numbersOfWalkers() {
        numberIs("walker ", 0, 5, " 1 1 1 1 1 1");
        numberIs("walker 0 ", 0, 1, " 1 1 1 1 1");
        numberIs("walker 0 1 ", 0, 1, " 1 1 1 1");
        numberIs("walker 0 1 1 ", 0, 20, " 1 1 1");
        numberIs("walker 0 1 1 1 ", 1, 9, " 1 1");
        numberIs("walker 0 1 1 1 1 ", 0, 2, " 1");
        numberIs("walker 0 1 1 1 1 1 ", 0, 2, "");
        for (int w = 1; w <= 4; w++) {
            numberIs("street " + w + " 1;walker 5 ", 0, w - 1, " 1 20 9 2 2");
        }
    }

    private static void numbersOfGoneAndRain() {
        numberIs("gone ", 0, 5, "");
        numberIs("rain ", 0, 59, " 59 99");
        numberIs("rain 0 ", 0, 59, " 0");
        for (int from = 0; from < 60; from++) {
            numberIs("rain " + from + " ", from, 59, " 1");
        }
        numberIs("rain 0 59 ", 0, 99, "");
    }

    private static void threeDigits() {
        for (String line : LINES) {
            String[] tokens = line.split(" ");
            String ahead = tokens[0];
            for (int i = 1; i < tokens.length; i++) {
                String behind = line.substring(ahead.length() + 2);
                faultIs(ahead + " 01" + behind, NONE);
                faultIs(ahead + " 001" + behind, ahead.length() + 1);
                faultIs(ahead + " 0000000000000000000000001" + behind, ahead.length() + 1);
                faultIs(ahead + " 4294967297" + behind, ahead.length() + 1);
                ahead = ahead + " 1";
            }
        }
    }

    // ---- tokens

    private static void endsTooSoon() {
        for (String line : LINES) {
            String[] tokens = line.split(" ");
            String ahead = "";
            for (String token : tokens) {
                faultIs(ahead, ahead.length());
                faultIs(ahead + "  ", ahead.length() + 2);
                faultIs("gone 1;" + ahead, ahead.length() + 7);
                ahead = ahead.isEmpty() ? token : ahead + " " + token;
            }
            faultIs(ahead, NONE);
            faultIs(ahead + ";", ahead.length() + 1);
            faultIs(ahead + "; ", ahead.length() + 2);
        }
    }

    private static void wrongTokens() {
        for (String line : LINES) {
            faultIs(line + " 1", line.length() + 1);
            faultIs(line + " gone", line.length() + 1);
            faultIs(line + "gone 1", line.length());
            faultIs(line + ";;" + line, line.length() + 1);
            faultIs(line + ";1", line.length() + 1);
            faultIs(line + " ; ,", line.length() + 3);
            String[] tokens = line.split(" ");
            for (int i = 0, from = 0; i < tokens.length; i++) {
                String ahead = line.substring(0, from);
                for (String wrong : new String[] {";", "x", "street1", ".", "-1", "+1", "\n", "\0"}) {
                    faultIs(ahead + wrong + " 1 1 1", wrong.equals("street1") && i == 0 ? 10 : from);
                }
                if (i == 0) {
                    faultIs("1 1 1", 0);
                }
                from += tokens[i].length() + 1;
            }
            // A word that is longer, or shorter, or has a capital, is another word.
            faultIs(tokens[0] + "s 1 1", 0);
            faultIs("a" + line, 0);
            faultIs(line.substring(1), 0);
            faultIs(tokens[0].substring(0, tokens[0].length() - 1) + " 1 1", 0);
            faultIs(Character.toUpperCase(line.charAt(0)) + line.substring(1), 0);
            faultIs(tokens[0].substring(0, 2) + " " + line.substring(2), 0);
            // Only the first fault is told.
            faultIs(line + " 99;99;x", line.length() + 1);
        }
    }

    /** Of all bytes only blanks, and what makes a TOKEN that is due, can stand. */
    private static void everyByte() {
        for (int b = 0; b < 256; b++) {
            char sign = (char) b;
            boolean isDigit = sign >= '0' && sign <= '9';
            faultIs(sign + "gone 0", sign == ' ' ? NONE : 0);
            faultIs("gone" + sign + "0", sign == ' ' || sign == '0' ? NONE : sign >= 'a' && sign <= 'z' ? 0 : 4);
            faultIs("gone 0" + sign, sign == ' ' ? NONE : isDigit ? (sign <= '5' ? NONE : 5) : sign == ';' ? 7 : 6);
            faultIs("gone " + sign, sign >= '0' && sign <= '5' ? NONE : sign == ' ' ? 6 : 5);
            faultIs("gone 0" + sign + "gone 1",
                    sign == ';' ? NONE : sign == ' ' ? 7 : isDigit ? (sign <= '5' ? 7 : 5) : 6);
        }
    }

    private static void blanks() {
        faultIs("street2 6", NONE);
        faultIs("street2 6;awning5 1;walker0 1 1 1 1 1 1;gone0;rain0 1 1", NONE);
        faultIs("   street   2   6   ;   gone   0   ", NONE);
        faultIs("street 26", 7);
        faultIs("street 4 26", 9);
        faultIs("street26", 6);
        faultIs("street 1 1 2", 11);
        faultIs("str eet 2 6", 0);
        faultIs("gone 0 ;gone 1", NONE);
        faultIs("gone 0; gone 1", NONE);
        faultIs(" ".repeat(200), 200);
        faultIs(" ".repeat(100) + "gone" + " ".repeat(95) + "0", NONE);
        faultIs(" ".repeat(100) + "gone" + " ".repeat(95) + "6", 199);
    }

    private static void oneToEightLines() {
        String text = "";
        for (int lines = 1; lines <= 8; lines++) {
            text += (lines == 1 ? "" : ";") + "gone " + lines % 6;
            faultIs(text, NONE);
            faultIs(text + "  ", NONE);
            UmbrellaStreet x = new UmbrellaStreet();
            Due.put(x, text);
            Due.is(lines + " LINES", x.shower(), lines);
            int end = text.length();
            faultIs(text + ";", lines == 8 ? end : end + 1);
            faultIs(text + "  ;x", lines == 8 ? end + 2 : end + 3);
            faultIs(text + ";gone 6", lines == 8 ? end : end + 6);
        }
    }

    // ---- what a text does

    private static void readingChangesNothing() {
        UmbrellaStreet x = new UmbrellaStreet();
        String[] texts = {"street 4 12;awning 11 3", "street 4 12;awning 11 3;x", "street 1 1;awning 0 0;", "street 1 1"};
        for (String text : texts) {
            Due.put(x, text);
            x.fault();
            if (x.fault() != NONE) {
                x.shower();
            }
            x.erase();
            // As at first: two lanes, six places. What was read and not done ahead is not there.
            Due.is("cell ahead of a shower", x.cell(0, 0), 0);
            Due.is("places ahead of a shower", x.count(1), 6);
            Due.put(x, "awning 6 0");
            Due.is("behind '" + text + "': no place 6", x.fault(), 7);
            Due.is("and none for its shower", x.shower(), NOT);
            x.erase();
            Due.put(x, "walker 0 2 0 0 5 0 0");
            Due.is("behind '" + text + "': no lane 2 for its shower", x.shower(), NOT);
            Due.is("and none", x.fault(), 9);
            x.erase();
            Due.put(x, "awning 5 1");
            Due.is("behind '" + text + "': place 5, lane 1", x.fault(), NONE);
            x.erase();
        }
        Due.put(x, "gone 0;awning 5 1;walker 0 0 0 0 5 0 0");
        Due.is("fault", x.fault(), NONE);
        x.erase();
        Due.tell(x, "rain 0 0 1");
        Due.is("an awning that was only read", x.cell(21, 0), 0);
        Due.is("a walker that was only read", x.count(2), 0);
    }

    private static void linesInTheirOrder() {
        UmbrellaStreet x = Due.told("walker 0 0 0 0 5 0 0;gone 0");
        Due.is("told and gone", x.walker(0, 0), UNKNOWN);
        x = Due.told("gone 0;walker 0 0 0 0 5 0 0");
        Due.is("gone and told", x.walker(0, 0), NONE);
        x = Due.told("awning 0 0;street 2 6");
        Due.is("an awning ahead of its street", x.cell(0, 0), 0);
        x = Due.told("street 2 6;awning 0 0;awning 0 0");
        Due.is("an awning told twice", x.cell(0, 0), 1);
        x = Due.told("walker 3 0 0 0 5 0 0;walker 3 1 1 0 9 2 2");
        Due.is("one told twice is one", x.count(2), 1);
        x.go(1);
        Due.is("as told last", x.walker(3, 0), 21);
        x = Due.told("rain 0 59 10;rain 1 1 20;rain 1 1 30;walker 0 0 0 0 5 0 0");
        x.go(2);
        Due.is("rain as told last", x.walker(0, 1), 40);
        x = Due.told("street 4 12;street 1 1");
        Due.is("a street as told last: lanes", x.count(0), 1);
        Due.is("a street as told last: places", x.count(1), 1);
    }

    private static void whatStays() {
        UmbrellaStreet x = Due.told("street 3 5;awning 4 2;walker 1 2 1 0 5 0 0;rain 0 59 6");
        Due.tell(x, "gone 0");
        Due.is("lanes stay", x.count(0), 3);
        Due.is("places stay", x.count(1), 5);
        Due.is("an awning stays", x.cell(18, 0), 1);
        Due.is("a walker stays", x.count(2), 1);
        x.go(2);
        Due.is("one who is not told can be gone; the rain stays", x.walker(1, 1), 6);
        Due.is("the way and the lane stay", x.walker(1, 0), 14);
        Due.tell(x, "street 3 5");
        Due.is("a street, as it was, is open", x.cell(18, 0), 0);
        Due.is("a street, as it was, has no walkers", x.count(2), 0);
        Due.tell(x, "walker 2 0 0 0 5 0 0");
        x.go(5);
        Due.is("its rain stays", x.walker(2, 1), 30);
        Due.is("who was told ahead of it is not there", x.walker(1, 0), UNKNOWN);
    }

    private static void behindAText() {
        // 0 and 1 poke and wait, face to face in one lane; 2 goes through.
        UmbrellaStreet x = Due.told("street 2 2;rain 0 59 9;walker 0 0 0 0 5 1 0;walker 1 0 1 0 5 1 0;walker 2 1 0 0 9 0 0");
        x.go(4);
        x.keep(0);
        x.keep(1);
        int[] got = {x.walker(0, 1), x.walker(0, 2), x.walker(0, 3), x.walker(2, 4), x.count(7), x.count(4), x.count(3)};
        int[] want = {16, 4, 3, 1, 4, 4, 2};
        for (int i = 0; i < got.length; i++) {
            Due.is("ahead of the text, " + i, got[i], want[i]);
        }
        Due.tell(x, "gone 5");
        int[] clear = {NONE, 0, 0, 0, 0};
        for (int k = 0; k < 3; k++) {
            for (int what = 0; what < 5; what++) {
                Due.is("behind a text: walker " + k + ", " + what, x.walker(k, what), clear[what]);
            }
        }
        Due.is("behind a text: TICKS", x.count(4), 0);
        Due.is("behind a text: POKES of pairs", x.count(7), 0);
        Due.is("behind a text: on THE STREET", x.count(3), 0);
        Due.is("behind a text: at a CELL", x.cell(0, 1), NONE);
        Due.is("behind a text: kept 0", x.back(0), NOT);
        Due.is("behind a text: kept 1", x.back(1), NOT);
        Due.is("it goes anew", x.go(4), 4);
        Due.is("as it went: WET", x.walker(0, 1), 16);
        Due.is("as it went: POKES of pairs", x.count(7), 4);
        // One who was on THE STREET, is gone and is told again has nothing of what it had.
        Due.tell(x, "gone 0");
        Due.tell(x, "walker 0 0 0 0 5 1 0");
        Due.is("told again: WET", x.walker(0, 1), 0);
        Due.is("told again: WAITED", x.walker(0, 3), 0);
    }

    private static void rainFromTo() {
        // On one place for all TICKS: face to face with 1 in a lane of two places.
        for (int from : new int[] {0, 1, 30, 58, 59}) {
            for (int to : new int[] {from, Math.min(59, from + 1), 59}) {
                UmbrellaStreet x = Due.told("street 1 2;walker 0 0 0 0 5 0 0;walker 1 0 1 0 5 0 0;rain " + from + " " + to + " 7");
                int wet = 0;
                for (int t = 0; t < 60; t++) {
                    x.go(1);
                    wet += t >= from && t <= to ? 7 : 0;
                    Due.is("rain " + from + " to " + to + ", TICK " + t, x.walker(0, 1), wet);
                }
            }
        }
        UmbrellaStreet x = Due.told("street 1 2;walker 0 0 0 0 5 0 0;walker 1 0 1 0 5 0 0");
        x.go(60);
        Due.is("no RAIN at first", x.walker(0, 1), 0);
        Due.tell(x, "rain 0 59 99");
        x.go(60);
        Due.is("99 at each TICK", x.walker(0, 1), 5940);
        Due.tell(x, "rain 0 59 0");
        x.go(60);
        Due.is("0 again", x.walker(0, 1), 0);
    }
}
