/** Promises 1 to 5: a new object, write, erase, fault, shower. */
public final class TextTest {
    public static void main(String[] args) {
        newObject();
        writing();
        faultsAtTokens();
        faultsAtEnds();
        faultsAtBounds();
        linesAhead();
        showers();
        Due.end();
    }

    private static void newObject() {
        UmbrellaStreet x = new UmbrellaStreet();
        int[] counts = {2, 6, 0, 0, 0, 0, 0, 0};
        for (int what = 0; what < counts.length; what++) {
            Due.is("new: count " + what, x.count(what), counts[what]);
        }
        for (int cell = -5; cell < 60; cell++) {
            boolean isThere = cell >= 0 && cell < 24 && cell % 4 < 2;
            Due.is("new: cell " + cell, x.cell(cell, 0), isThere ? 0 : UmbrellaStreet.UNKNOWN);
            Due.is("new: nobody at " + cell, x.cell(cell, 1), isThere ? UmbrellaStreet.NONE : UmbrellaStreet.UNKNOWN);
        }
        for (int k = -1; k < 8; k++) {
            Due.is("new: walker " + k, x.walker(k, 0), UmbrellaStreet.UNKNOWN);
        }
        Due.is("new: back", x.back(0), UmbrellaStreet.NOT);
        Due.is("new: text is no text", x.fault(), 0);
    }

    private static void writing() {
        UmbrellaStreet x = new UmbrellaStreet();
        Due.is("write of 0", x.write(0, 0), UmbrellaStreet.OUTSIDE);
        Due.is("write of 9", x.write(0, 9), UmbrellaStreet.OUTSIDE);
        Due.is("write of -1", x.write(0, -1), UmbrellaStreet.OUTSIDE);
        Due.is("write of the least int", x.write(0, Integer.MIN_VALUE), UmbrellaStreet.OUTSIDE);
        Due.is("nothing written", x.count(5), 0);
        Due.is("write of 8 blanks", x.write(0x2020202020202020L, 8), 8);
        Due.is("bytes beyond n are not read", x.write(0x6161616161616120L, 1), 9);
        Due.is("blanks alone end too soon", x.fault(), 9);
        Due.is("erase", x.erase(), 9);
        Due.is("erase again", x.erase(), 0);
        for (int n = 8; n <= 192; n += 8) {
            Due.is("write to " + n, x.write(0x2020202020202020L, 8), n);
        }
        Due.is("write to 199", x.write(0x20202020202020L, 7), 199);
        Due.is("write beyond 200", x.write(0x2020L, 2), UmbrellaStreet.FULL);
        Due.is("a wrong n of a full text", x.write(0x2020L, 9), UmbrellaStreet.OUTSIDE);
        Due.is("refused bytes are not there", x.count(5), 199);
        Due.is("write to 200", x.write(0x20L, 1), 200);
        Due.is("write to 201", x.write(0x20L, 1), UmbrellaStreet.FULL);
        Due.is("200 blanks", x.fault(), 200);
        Due.is("erase 200", x.erase(), 200);
        Due.put(x, " ".repeat(192) + "gone   0");
        Due.is("a line that ends with byte 200", x.fault(), UmbrellaStreet.NONE);
        Due.is("its shower", x.shower(), 1);
        Due.is("a byte of 255", x.write(-1L, 1), 1);
        Due.is("a byte of 255 stands nowhere", x.fault(), 0);
    }

    private static void fault(String text, int want) {
        UmbrellaStreet x = new UmbrellaStreet();
        Due.put(x, text);
        Due.is("fault of '" + text + "'", x.fault(), want);
        Due.is("fault again of '" + text + "'", x.fault(), want);
        Due.is("shower of '" + text + "'", x.shower(), want == UmbrellaStreet.NONE ? lines(text) : UmbrellaStreet.NOT);
        Due.is("bytes behind the shower", x.count(5), want == UmbrellaStreet.NONE ? 0 : text.length());
    }

    private static int lines(String text) {
        return text.split(";", -1).length;
    }

    private static void faultsAtTokens() {
        int none = UmbrellaStreet.NONE;
        fault("street 2 6", none);
        fault("  street2  6  ", none);
        fault("street 2 6;gone 1", none);
        fault("street 2 6 ; gone1 ", none);
        fault("awning5 1", none);
        fault("walker 0 0 0 0 1 0 0", none);
        fault("walker 05 01 01 20 09 02 02", none);
        fault("rain 0 59 99", none);
        fault("rain0 0 0", none);
        fault("streets 2 6", 0);
        fault("stree 2 6", 0);
        fault("xtreet 2 6", 0);
        fault("streex 2 6", 0);
        fault("gonez 0", 0);
        fault("gonea 0", 0);
        fault("gone` 0", 4);
        fault("gone{ 0", 4);
        fault("gone :", 5);
        fault("gone /", 5);
        fault(" Street 2 6", 1);
        fault("street2 6x", 9);
        fault("street 2 6 gone 1", 11);
        fault("street 2,6", 8);
        fault("street 2 -6", 9);
        fault("street x 6", 7);
        fault("street ; 6", 7);
        fault("5 1", 0);
        fault(";gone 0", 0);
        fault("gone 0;;gone 1", 7);
        fault("gone 0;5", 7);
        fault("gone\t0", 4);
        fault("gone 0\n", 6);
        fault("gone 0.", 6);
        fault("gone \u00e9", 5);
        fault("gone 0 0", 7);
        fault("GONE 0", 0);
        fault("rainbow 0 0 0", 0);
        fault("gonerain 0 0 0", 0);
        fault("gone 0rain 0 0 0", 6);
    }

    private static void faultsAtEnds() {
        fault("", 0);
        fault("  ", 2);
        fault("street", 6);
        fault("street ", 7);
        fault("street 2", 8);
        fault("street 2  ", 10);
        fault("awning 1", 8);
        fault("awning", 6);
        fault("gone", 4);
        fault("rain 1 2", 8);
        fault("rain 1", 6);
        fault("walker 0 0 0 0 1 0", 18);
        fault("walker 0 0 0 0 1", 16);
        fault("gone 0;", 7);
        fault("gone 0; ", 8);
        fault("gone 0;street 2", 15);
        fault("gone 0;gone 0;gone 0;gone 0;gone 0;gone 0;gone 0;gone 0", UmbrellaStreet.NONE);
        fault("gone 0;gone 0;gone 0;gone 0;gone 0;gone 0;gone 0;gone 0 ;", 56);
        fault("gone 0;gone 0;gone 0;gone 0;gone 0;gone 0;gone 0;gone 0;gone 0", 55);
        fault("gone 0;gone 0;gone 0;gone 0;gone 0;gone 0;gone 0;gone 6", 54);
    }

    private static void faultsAtBounds() {
        int none = UmbrellaStreet.NONE;
        fault("street 1 1", none);
        fault("street 4 12", none);
        fault("street 0 6", 7);
        fault("street 5 6", 7);
        fault("street 2 0", 9);
        fault("street 2 13", 9);
        fault("street 002 6", 7);
        fault("street 2 006", 9);
        fault("street 99999999999999999999 6", 7);
        fault("awning 0 0", none);
        fault("awning 6 0", 7);
        fault("awning 0 2", 9);
        fault("walker 6 0 0 0 1 0 0", 7);
        fault("walker 5 2 0 0 1 0 0", 9);
        fault("walker 5 1 2 0 1 0 0", 11);
        fault("walker 5 1 1 21 1 0 0", 13);
        fault("walker 5 1 1 20 0 0 0", 16);
        fault("walker 5 1 1 20 10 0 0", 16);
        fault("walker 5 1 1 20 9 3 0", 18);
        fault("walker 5 1 1 20 9 2 3", 20);
        fault("gone 5", none);
        fault("gone 6", 5);
        fault("gone 000", 5);
        fault("rain 60 60 0", 5);
        fault("rain 5 60 0", 7);
        fault("rain 5 4 0", 7);
        fault("rain 5 5 0", none);
        fault("rain 5 5 100", 9);
    }

    private static void linesAhead() {
        int none = UmbrellaStreet.NONE;
        fault("street 4 12;awning 11 3", none);
        fault("street 4 11;awning 11 3", 19);
        fault("awning 11 3;street 4 12", 7);
        fault("street 1 1;awning 0 1", 20);
        fault("street 1 1;awning 1 0", 18);
        fault("street 4 1;walker 0 3 0 0 1 0 0", none);
        fault("street 3 1;walker 0 3 0 0 1 0 0", 20);
        fault("street 4 9;street 1 9;walker 0 1 0 0 1 0 0", 31);
        UmbrellaStreet x = new UmbrellaStreet();
        Due.put(x, "street 4 12;awning 9 9");
        Due.is("a fault behind street", x.fault(), 21);
        Due.is("its shower", x.shower(), UmbrellaStreet.NOT);
        Due.is("lanes stay", x.count(0), 2);
        Due.is("places stay", x.count(1), 6);
        x.erase();
        Due.put(x, "street 4 12");
        Due.is("fault tells nothing", x.fault(), none);
        Due.is("lanes till the shower", x.count(0), 2);
        Due.is("shower", x.shower(), 1);
        Due.is("lanes", x.count(0), 4);
        Due.put(x, "awning 11 3");
        Due.is("bounds told by an earlier text", x.fault(), none);
    }

    private static void showers() {
        UmbrellaStreet x = Due.told("street 3 4;awning 2 1;walker 0 2 0 0 5 0 0;walker 3 0 1 0 5 0 0;rain 0 59 7");
        Due.is("awning told", x.cell(9, 0), 1);
        Due.is("beside it open", x.cell(10, 0), 0);
        Due.is("told walkers", x.count(2), 2);
        x.go(2);
        x.keep(0);
        Due.put(x, "gone x");
        Due.is("a refused shower", x.shower(), UmbrellaStreet.NOT);
        Due.is("ticks stay", x.count(4), 2);
        Due.is("kept stays", x.back(0), 2);
        x.erase();
        Due.tell(x, "gone 3");
        Due.is("ticks are 0", x.count(4), 0);
        Due.is("nobody is on", x.count(3), 0);
        Due.is("nobody is at a cell", x.walker(0, 0), UmbrellaStreet.NONE);
        Due.is("wet is 0", x.walker(0, 1), 0);
        Due.is("nothing is kept", x.back(0), UmbrellaStreet.NOT);
        Due.is("one is told", x.count(2), 1);
        Due.is("gone", x.walker(3, 0), UmbrellaStreet.UNKNOWN);
        Due.is("awning stays", x.cell(9, 0), 1);
        x.go(1);
        Due.is("rain stays", x.walker(0, 1), 7);
        Due.tell(x, "rain 1 1 9;walker 0 1 0 1 5 0 0");
        x.go(1);
        Due.is("told anew, not on yet", x.walker(0, 0), UmbrellaStreet.NONE);
        x.go(1);
        Due.is("told anew, in lane 1", x.walker(0, 0), 1);
        Due.is("rain of tick 1", x.walker(0, 1), 9);
        Due.tell(x, "street 3 4");
        Due.is("a new street is open", x.cell(9, 0), 0);
        Due.tell(x, "awning 0 0;awning 3 2;street 3 4");
        Due.is("its first cell is open", x.cell(0, 0), 0);
        Due.is("its last cell is open", x.cell(14, 0), 0);
        Due.is("a new street is empty", x.count(2), 0);
        Due.tell(x, "walker 0 0 0 0 5 0 0");
        x.go(1);
        Due.is("rain stays on a new street", x.walker(0, 1), 7);
        Due.tell(x, "walker 1 0 0 0 5 0 0;gone 0;gone 1;walker 2 0 0 0 5 0 0;street 1 3;walker 4 0 0 0 5 0 0");
        Due.is("lines are done in their order", x.count(2), 1);
        Due.is("the last one told", x.walker(4, 0), UmbrellaStreet.NONE);
        Due.is("an empty text", x.shower(), UmbrellaStreet.NOT);
    }
}
