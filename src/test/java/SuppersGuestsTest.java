/** Promises 1 to 11. */
public final class SuppersGuestsTest {
    private static final int MIN = Integer.MIN_VALUE, MAX = Integer.MAX_VALUE;

    private SuppersGuestsTest() {
    }

    public static void main(String[] args) {
        constants();
        newObject();
        weight();
        guest();
        slip();
        write();
        told();
        rule();
        type();
        supper();
        supperFaults();
        guests();
        guestsFaults();
        count();
        Due.finish("SuppersGuestsTest");
    }

    private static void constants() {
        Due.due("BAD", FarthestPays.BAD, -1);
        Due.due("NOT", FarthestPays.NOT, -2);
        Due.due("FULL", FarthestPays.FULL, -3);
        Due.due("NONE", FarthestPays.NONE, -4);
        Due.due("NULL", FarthestPays.NULL, -11);
        Due.due("CAST", FarthestPays.CAST, -12);
        Due.due("INDEX", FarthestPays.INDEX, -13);
        Due.due("SIZE", FarthestPays.SIZE, -14);
    }

    private static void newObject() {
        FarthestPays x = new FarthestPays();
        for (int what = 0; what < 4; what++) {
            Due.due("1 count " + what, x.count(what), 0);
        }
        for (int sum = 0; sum <= 20; sum++) {
            Due.due("1 weight of " + sum, x.weight(sum, 0), 0);
        }
        Due.due("1 law 0", x.rule(0, 0), 0);
        Due.due("1 law 1", x.rule(1, 0), 0);
        Due.due("1 pay", x.pay(3), -4);
        Due.due("1 restore", x.restore(), -4);
        for (int sheet = 0; sheet < 4; sheet++) {
            Due.due("1 drop " + sheet, x.drop(sheet), -11);
        }
        Due.due("1 tape", x.type('s', 1), 1);
    }

    private static void weight() {
        FarthestPays x = new FarthestPays();
        Due.due("2 first", x.weight(0, 99), 0);
        Due.due("2 again", x.weight(0, 5), 99);
        Due.due("2 last sum", x.weight(20, 1), 0);
        Due.due("2 sum below", x.weight(-1, 1), -1);
        Due.due("2 sum above", x.weight(21, 1), -1);
        Due.due("2 sum far", x.weight(MAX, 1), -1);
        Due.due("2 sum far below", x.weight(MIN, 1), -1);
        Due.due("2 weight below", x.weight(0, -1), -1);
        Due.due("2 weight above", x.weight(0, 100), -1);
        Due.due("2 refused changes nothing", x.weight(0, 0), 5);
        Due.due("2 all", x.count(2), 1);
    }

    private static void guest() {
        FarthestPays x = new FarthestPays();
        Due.due("3 below", x.guest(-1), -1);
        Due.due("3 above", x.guest(4), -1);
        for (int g = 0; g < 9; g++) {
            Due.due("3 guest " + g, x.guest(g % 4), g);
            Due.due("3 kind " + g, x.told(g, 0), g % 4);
            Due.due("3 slip " + g, x.told(g, 1), 0);
        }
        Due.due("3 full", x.guest(0), -3);
        Due.due("3 BAD ahead of FULL", x.guest(4), -1);
        Due.due("3 nine stay", x.count(0), 9);
        FarthestPays y = Due.at("5x1", "s7");
        Due.due("3 behind a text", y.guest(1), 1);
        Due.due("3 its slip", y.told(1, 1), 0);
        Due.due("3 behind a longer text, guests", Due.guests(y, "k9;k9;k9"), 3);
        Due.due("3 behind a shorter text, guests", Due.guests(y, "s1"), 1);
        Due.due("3 anew", y.guest(0), 1);
        Due.due("3 anew, slip", y.told(1, 1), 0);
    }

    private static void slip() {
        FarthestPays x = Due.at("", "s5;f;n;k20");
        Due.due("4 what it was", x.slip(0, 9), 5);
        Due.due("4 again", x.slip(0, 0), 9);
        Due.due("4 fool", x.slip(1, 20), 0);
        Due.due("4 knowing", x.slip(3, 1), 20);
        Due.due("4 nought, 0", x.slip(2, 0), 0);
        Due.due("4 nought", x.slip(2, 1), -2);
        Due.due("4 nought, no sum", x.slip(2, 21), -1);
        Due.due("4 sum below", x.slip(0, -1), -1);
        Due.due("4 sum above", x.slip(0, 21), -1);
        Due.due("4 guest below", x.slip(-1, 1), -1);
        Due.due("4 guest above", x.slip(4, 1), -1);
        Due.due("4 guest far", x.slip(MAX, 1), -1);
        Due.due("4 nought stays", x.told(2, 1), 0);
        Due.due("4 fool stays", x.told(1, 1), 20);
    }

    private static void write() {
        FarthestPays x = Due.at("", "s5;f;n;k20;f3");
        Due.due("5 no weight", x.write(3), -2);
        Due.due("5 BAD ahead of NOT", x.write(21), -1);
        Due.supper(x, "5x1,10x2,20x1");
        Due.due("5 below", x.write(-1), -1);
        Due.due("5 above", x.write(21), -1);
        Due.due("5 three change", x.write(3), 3);
        Due.due("5 shrewd", x.told(0, 1), 5);
        Due.due("5 fool, 45 by 4", x.told(1, 1), 11);
        Due.due("5 nought", x.told(2, 1), 0);
        Due.due("5 knowing", x.told(3, 1), 3);
        Due.due("5 other fool", x.told(4, 1), 11);
        Due.due("5 none change", x.write(3), 0);
        Due.due("5 one changes", x.write(20), 1);
        FarthestPays y = Due.at("0x1", "");
        Due.due("5 nobody", y.write(0), 0);
        FarthestPays one = Due.at("7x1", "f;s;k");
        Due.due("5 the first one, too", one.write(2), 2);
        Due.due("5 one sum's mean", one.told(0, 1), 7);
        Due.due("5 the last one, too", one.told(2, 1), 2);
        FarthestPays cut = Due.at("9x2,10x1,19x1", "f");
        Due.due("5 47 by 4", cut.write(0), 1);
        Due.due("5 47 by 4 is cut", cut.told(0, 1), 11);
        FarthestPays z = Due.at("", "s");
        Due.due("5 no weight, no fool", z.write(0), -2);
    }

    private static void told() {
        FarthestPays x = Due.at("", "k7;n");
        Due.due("6 kind", x.told(0, 0), 3);
        Due.due("6 slip", x.told(0, 1), 7);
        Due.due("6 nought's kind", x.told(1, 0), 2);
        Due.due("6 what above", x.told(0, 2), -1);
        Due.due("6 what below", x.told(0, -1), -1);
        Due.due("6 guest above", x.told(2, 0), -1);
        Due.due("6 guest below", x.told(-1, 0), -1);
    }

    private static void rule() {
        FarthestPays x = new FarthestPays();
        for (int v = 0; v <= 3; v++) {
            Due.due("7 who " + v, x.rule(0, v), Math.max(0, v - 1));
        }
        for (int v = 0; v <= 2; v++) {
            Due.due("7 ties " + v, x.rule(1, v), Math.max(0, v - 1));
        }
        Due.due("7 who above", x.rule(0, 4), -1);
        Due.due("7 who below", x.rule(0, -1), -1);
        Due.due("7 ties above", x.rule(1, 3), -1);
        Due.due("7 ties below", x.rule(1, -1), -1);
        Due.due("7 no law", x.rule(2, 0), -1);
        Due.due("7 no law below", x.rule(-1, 0), -1);
        Due.due("7 who stays", x.rule(0, 0), 3);
        Due.due("7 ties stay", x.rule(1, 0), 2);
    }

    private static void type() {
        FarthestPays x = new FarthestPays();
        Due.due("8 n 0", x.type('s', 0), -1);
        Due.due("8 n 9", x.type('s', 9), -1);
        Due.due("8 n below", x.type('s', MIN), -1);
        Due.due("8 byte 31", x.type(31, 1), -1);
        Due.due("8 byte 127", x.type(127, 1), -1);
        Due.due("8 byte 255", x.type(-1L, 8), -1);
        Due.due("8 byte 0 ahead", x.type('s', 2), -1);
        Due.due("8 a bad byte behind", x.type('s' << 8 | 10, 2), -1);
        Due.due("8 higher bytes are not looked at", x.type(0xFF00L | 's', 1), 1);
        Due.due("8 the highest first", x.type(Due.bytes("12"), 2), 3);
        Due.due("8 taken", x.guests(), 1);
        Due.due("8 s12", x.told(0, 1), 12);
        for (int i = 1; i <= 10; i++) {
            Due.due("8 eights " + i, x.type(Due.bytes("        "), 8), 8 * i);
        }
        Due.due("8 full", x.type(' ', 1), -3);
        Due.due("8 BAD ahead of FULL", x.type(31, 1), -1);
        Due.due("8 n is BAD ahead of FULL", x.type(' ', 0), -1);
        Due.due("8 the end of blanks", x.supper(), -100);
        for (int i = 0; i < 9; i++) {
            x.type(Due.bytes("~~~~~~~~"), 8);
        }
        Due.due("8 five more", x.type(Due.bytes("~    "), 5), 77);
        Due.due("8 four too many", x.type(Due.bytes("    "), 4), -3);
        Due.due("8 three fit", x.type(Due.bytes("   "), 3), 80);
    }

    private static void supper() {
        FarthestPays x = Due.at("", "s4");
        x.night(4);
        Due.due("9 together", Due.supper(x, "7x10,0x99,20x1"), 110);
        Due.due("9 weight of 7", x.weight(7, 10), 10);
        Due.due("9 weight of 0", x.weight(0, 99), 99);
        Due.due("9 weight of 20", x.weight(20, 1), 1);
        Due.due("9 in place of those told", Due.supper(x, " 00001x002 , 2 x 3 "), 5);
        Due.due("9 weight of 7 gone", x.weight(7, 0), 0);
        Due.due("9 weight of 1", x.weight(1, 2), 2);
        Due.due("9 weight of 2", x.weight(2, 3), 3);
        Due.due("9 nights stay", x.count(3), 1);
        Due.due("9 guests stay", x.count(0), 1);
        Due.due("9 eight", Due.supper(x, "1x99,2x99,3x99,4x99,5x99,6x99,7x99,8x99"), 792);
        Due.due("9 the tape is empty", x.type('1', 1), 1);
    }

    private static void supperFaults() {
        fault("", 0);
        fault("  ", 2);
        fault("x", 0);
        fault(",", 0);
        fault("5", 1);
        fault("5 ", 2);
        fault("5x", 2);
        fault("5x ", 3);
        fault("5x0", 2);
        fault("5x00", 2);
        fault("5x100", 2);
        fault("5x00000000000000000000000004294967297", 2);
        fault("21x1", 0);
        fault(" 21", 1);
        fault("99999999999999999999", 0);
        fault("5x1,5", 4);
        fault("5x1, 05x1", 5);
        fault("5x1,", 4);
        fault("5x1,,", 4);
        fault("5x1 2", 4);
        fault("5x1;6x1", 3);
        fault("5 5x1", 2);
        fault("5X1", 1);
        fault("5x1x", 3);
        fault("-5x1", 0);
        fault("5x-1", 2);
        fault("5xx1", 2);
        fault("0x1,1x1,2x1,3x1,4x1,5x1,6x1,7x1,", 31);
        fault("0x1,1x1,2x1,3x1,4x1,5x1,6x1,7x1 8", 32);
        FarthestPays x = Due.at("", "s4");
        Due.due("9 a fault empties the tape", Due.supper(x, "5x1,5x1"), -24);
        Due.due("9 empty", x.type('1', 1), 1);
        Due.due("9 behind a fault", Due.supper(x, "2x1,5x3"), 4);
        Due.due("9 in place of all of the fault", x.weight(12, 0), 1);
    }

    private static void fault(String text, int place) {
        FarthestPays x = Due.at("3x4", "");
        Due.due("9 " + text, Due.supper(x, text), -20 - place);
        Due.due("9 those told stay, " + text, x.weight(3, 4), 4);
        Due.due("9 no others come, " + text, x.count(2), 4);
    }

    private static void guests() {
        FarthestPays x = Due.at("3x4", "s4", 2, 1);
        x.night(4);
        Due.due("10 how many", Due.guests(x, "s;f 7;n;k020"), 4);
        int[] kinds = {0, 1, 2, 3};
        int[] slips = {0, 7, 0, 20};
        for (int g = 0; g < 4; g++) {
            Due.due("10 kind " + g, x.told(g, 0), kinds[g]);
            Due.due("10 slip " + g, x.told(g, 1), slips[g]);
        }
        Due.due("10 nights go", x.count(3), 0);
        Due.due("10 supper stays", x.count(2), 4);
        Due.due("10 who stays", x.rule(0, 2), 2);
        Due.due("10 ties stay", x.rule(1, 1), 1);
        Due.due("10 nine", Due.guests(x, "s1;s2;s3;s4;s5;s6;s7;s8; n "), 9);
        Due.due("10 the tape is empty", x.type('s', 1), 1);
        Due.due("10 one in place of nine", x.guests(), 1);
        Due.due("10 no others", x.told(1, 0), -1);
    }

    private static void guestsFaults() {
        guestsFault("", 0);
        guestsFault("   ", 3);
        guestsFault("x", 0);
        guestsFault("5", 0);
        guestsFault(";", 0);
        guestsFault("s;", 2);
        guestsFault("s; ", 3);
        guestsFault("s;;s", 2);
        guestsFault("s21", 1);
        guestsFault("s 21", 2);
        guestsFault("s99999999999999999999", 1);
        guestsFault("s5 5", 3);
        guestsFault("n0", 1);
        guestsFault("n 0", 2);
        guestsFault("s5,f", 2);
        guestsFault("ss", 1);
        guestsFault("S", 0);
        guestsFault("s;s;s;s;s;s;s;s;s;", 17);
        guestsFault("s;s;s;s;s;s;s;s;s s", 18);
        FarthestPays x = Due.at("", "s4");
        Due.due("10 a fault empties the tape", Due.guests(x, "s;"), -22);
        Due.due("10 empty", x.type('s', 1), 1);
        Due.due("10 behind a fault", Due.guests(x, "9;k"), 2);
    }

    private static void guestsFault(String text, int place) {
        FarthestPays x = Due.at("", "k4;f5");
        x.night(4);
        Due.due("10 " + text, Due.guests(x, text), -20 - place);
        Due.due("10 those told stay, " + text, x.count(0), 2);
        Due.due("10 their slips, " + text, x.told(0, 1), 4);
        Due.due("10 nights stay, " + text, x.count(3), 1);
    }

    private static void count() {
        FarthestPays x = Due.at("3x4,0x90", "s;s;s");
        x.night(0);
        x.night(1);
        Due.due("11 guests", x.count(0), 3);
        Due.due("11 sums", x.count(1), 2);
        Due.due("11 weights", x.count(2), 94);
        Due.due("11 nights", x.count(3), 2);
        Due.due("11 above", x.count(4), -1);
        Due.due("11 below", x.count(-1), -1);
    }
}
