/** Promises 8 to 10 at their edges: THE TAPE, SUPPERS and GUESTS as TEXTS, where FAULTS are. */
public final class TextsTest {
    private static final String BLANKS = "        ".repeat(10);

    private TextsTest() {
    }

    public static void main(String[] args) {
        tapeFullAt80();
        tapeKeepsWhatItHas();
        oneToEightSums();
        sumsUnlike();
        supperNumbers();
        zerosAhead();
        blanksDoNotCount();
        blanksEndANumber();
        supperFaultsAnywhere();
        theEnd();
        supperInPlace();
        supperTapeIsEmpty();
        oneToNineGuests();
        guestsNumbers();
        noughtsTellNone();
        guestsFaultsAnywhere();
        guestsInPlace();
        guestsTapeIsEmpty();
        Due.finish("TextsTest");
    }

    private static void supper(String text, int want) {
        FarthestPays x = Due.at("3x4", "s4");
        Due.due("9 <" + text + ">", Due.supper(x, text), want);
        if (want < 0) {
            Due.due("9 <" + text + ">, the one told stays", x.weight(3, 4), 4);
            Due.due("9 <" + text + ">, no others come", x.count(2), 4);
        } else {
            Due.due("9 <" + text + ">, all weights", x.count(2), want);
        }
        Due.due("9 <" + text + ">, the tape is empty then", x.type('s', 1), 1);
    }

    private static void supperFault(String text, int place) {
        supper(text, -20 - place);
    }

    private static void guests(String text, int want) {
        FarthestPays x = Due.at("3x4", "k4;f5");
        x.night(4);
        Due.due("10 <" + text + ">", Due.guests(x, text), want);
        if (want < 0) {
            Due.due("10 <" + text + ">, those told stay", x.count(0), 2);
            Due.due("10 <" + text + ">, their kinds stay", x.told(0, 0) * 10 + x.told(1, 0), 31);
            Due.due("10 <" + text + ">, their slips stay", x.told(0, 1) * 10 + x.told(1, 1), 45);
        } else {
            Due.due("10 <" + text + ">, how many", x.count(0), want);
        }
        Due.due("10 <" + text + ">, nights", x.count(3), want < 0 ? 1 : 0);
        Due.due("10 <" + text + ">, the tape is empty then", x.type('s', 1), 1);
    }

    private static void guestsFault(String text, int place) {
        guests(text, -20 - place);
    }

    /** "FULL: 80": 80 bytes fit, one more does not, however it comes. */
    private static void tapeFullAt80() {
        for (int n = 1; n <= 8; n++) {
            FarthestPays x = new FarthestPays();
            for (int size = n; size <= 80; size += n) {
                Due.due("8 by " + n + " up to " + size, x.type(Due.bytes("        "), n), size);
            }
            Due.due("8 by " + n + ", one more", x.type(Due.bytes("        "), n), -3);
            int left = 80 % n;
            for (int m = 8; m > left; m--) {
                Due.due("8 by " + n + ", " + m + " are too many", x.type(Due.bytes("        "), m), -3);
            }
            if (left > 0) {
                Due.due("8 by " + n + ", what is left fits", x.type(Due.bytes("        "), left), 80);
            }
            Due.due("8 by " + n + ", all 80 are there", x.supper(), -100);
            Due.due("8 by " + n + ", empty then", x.type(' ', 1), 1);
        }
    }

    /** A call refused as FULL or BAD leaves THE TAPE as it is. */
    private static void tapeKeepsWhatItHas() {
        FarthestPays x = new FarthestPays();
        Due.type(x, "5x1" + BLANKS.substring(0, 76));
        Due.due("8 two are too many", x.type(Due.bytes("23"), 2), -3);
        Due.due("8 a byte that is none", x.type(200, 1), -1);
        Due.due("8 the last byte", x.type(' ', 1), 80);
        Due.due("8 what was typed", x.supper(), 1);
        Due.type(x, BLANKS.substring(0, 77) + "12x");
        Due.due("8 the 80th byte is read", x.supper(), -100);
        Due.type(x, BLANKS.substring(0, 76) + "12x3");
        Due.due("8 the last of 80 bytes", x.supper(), 3);
        Due.due("8 the highest first", x.type(Due.bytes("12345678"), 8), 8);
        Due.due("8 behind", x.type(Due.bytes("x"), 1), 9);
        Due.due("8 12345678x", x.supper(), -20);
        x.type(Due.bytes("12x34,5x"), 8);
        x.type(Due.bytes("6"), 1);
        Due.due("8 12x34,5x6", x.supper(), 40);
    }

    /** "A SUPPER is a TEXT: 1 to 8 with , between". */
    private static void oneToEightSums() {
        String text = "";
        for (int n = 1; n <= 8; n++) {
            text = text + (n == 1 ? "" : ",") + (n + 11) + "x" + n;
            supper(text, n * (n + 1) / 2);
            supperFault(text + ",", n == 8 ? text.length() : text.length() + 1);
            supperFault("," + text, 0);
        }
        supperFault(text + ",3x1", text.length());
        supperFault(text + " , 3x1", text.length() + 1);
        FarthestPays x = Due.at("", "");
        Due.supper(x, text);
        for (int sum = 0; sum <= 20; sum++) {
            Due.due("9 eight, weight of " + sum, x.weight(sum, 0), sum >= 12 && sum <= 19 ? sum - 11 : 0);
        }
    }

    /** "(SUMS unlike)": a like one "may not be". */
    private static void sumsUnlike() {
        supperFault("5x1,5x1", 4);
        supperFault("5x1,5x2", 4);
        supperFault("5x1,05x2", 4);
        supperFault("5x1, 5 x2", 5);
        supperFault("0x1,0x1", 4);
        supperFault("0x1,00x1", 4);
        supperFault("20x1,20x1", 5);
        supperFault("5x1,6x1,7x1,8x1,9x1,10x1,11x1,5x1", 30);
        supperFault("5x1,6x1,7x1,8x1,9x1,10x1,11x1,11x1", 30);
        supperFault("5x1,5", 4);
        supperFault("5x1,5,", 4);
        supper("5x1,15x1", 2);
        supper("1x1,10x1,11x1", 3);
        // The one told before is not one of the TEXT.
        supper("3x1", 1);
    }

    /** "a SUM, x and a WEIGHT 1 .. 99". */
    private static void supperNumbers() {
        supper("0x1", 1);
        supper("20x99", 99);
        supper("19x98,0x1", 99);
        supperFault("21x1", 0);
        supperFault("22x1", 0);
        supperFault("30x1", 0);
        supperFault("100x1", 0);
        supperFault("256x1", 0);
        supperFault("4294967296x1", 0);
        supperFault("4294967301x1", 0);
        supperFault("18446744073709551616x1", 0);
        supperFault("5x0", 2);
        supperFault("5x100", 2);
        supperFault("5x101", 2);
        supperFault("5x355", 2);
        supperFault("5x4294967297", 2);
        supperFault("5x18446744073709551617", 2);
        supperFault("5x1" + "0".repeat(77), 2);
        supperFault("1" + "0".repeat(75) + "x1", 0);
        supperFault("6x1,21x1", 4);
        supperFault("6x1,7x0", 6);
        supperFault("6x1,7x100,8x1", 6);
    }

    /** "(Numbers are figures, zeros ahead, too.)" */
    private static void zerosAhead() {
        supper("005x001", 1);
        supper("00x099", 99);
        supper("020x1", 1);
        supperFault("021x1", 0);
        supperFault("5x0100", 2);
        supperFault("5x000", 2);
        supper("0".repeat(76) + "5x07".substring(1), 7);
        supper("5x" + "0".repeat(76) + "42", 42);
        supper("0".repeat(38) + "20x" + "0".repeat(38) + "9", 9);
        guests("s000", 1);
        guests("s007;f020", 2);
        guestsFault("s021", 1);
        guests("k" + "0".repeat(77) + "20", 1);
        FarthestPays x = Due.at("", "k" + "0".repeat(77) + "20");
        Due.due("10 zeros ahead", x.told(0, 1), 20);
        supperFault("+5x1", 0);
        supperFault("5x+1", 2);
        supperFault("-0x1", 0);
        supperFault("5.x1", 1);
        supperFault("0x5x1", 3);
        supperFault("5xA", 2);
        guestsFault("s-1", 1);
        guestsFault("s+1", 1);
    }

    /** "(blanks do not count, ..)": between any two, ahead and behind. */
    private static void blanksDoNotCount() {
        supper(" 5x1", 1);
        supper("5 x1", 1);
        supper("5x 1", 1);
        supper("5x1 ", 1);
        supper("5x1 ,6x1", 2);
        supper("5x1, 6x1", 2);
        supper("   5   x   1   ,   6   x   1   ", 2);
        guests(" s", 1);
        guests("s 5", 1);
        guests("s5 ", 1);
        guests("s ;f", 2);
        guests("s; f", 2);
        guests("s5 ;n ;k", 3);
        guests("   s   5   ;   n   ;   k   6   ", 3);
        FarthestPays x = Due.at("", " k   7 ; f");
        Due.due("10 a number behind blanks", x.told(0, 1), 7);
        // A place counts all bytes, blanks, too.
        supperFault("   x", 3);
        supperFault(" 5  1", 4);
        supperFault(" 5 x  0", 6);
        supperFault(" 21", 1);
        guestsFault("  5", 2);
        guestsFault("  s  21", 5);
        guestsFault("  s  5  ,", 8);
    }

    /** "(.. but end a number)" */
    private static void blanksEndANumber() {
        supperFault("1 0x1", 2);
        supperFault("2 1x1", 2);
        supperFault("0 5x1", 2);
        supperFault("5x1 0", 4);
        supperFault("5x9 9", 4);
        supperFault("5x0 1", 2);
        supperFault("5x0 ", 2);
        guestsFault("s1 0", 3);
        guestsFault("s0 1", 3);
        guestsFault("s2  1;f", 4);
    }

    /** "the place of the first byte .. that can't stand there": each sign in each place. */
    private static void supperFaultsAnywhere() {
        for (char c = 33; c <= 126; c++) {
            boolean figure = c >= '0' && c <= '9';
            if (!figure) {
                supperFault(c + "5x1", 0);
                if (c != 'x') {
                    supperFault("5" + c + "x1", 1);
                    supperFault("5 " + c + "1", 2);
                }
                supperFault("5x" + c + "1", 2);
                if (c != ',') {
                    supperFault("5x1" + c, 3);
                    supperFault("5x1 " + c + "6x1", 4);
                }
                supperFault("5x1," + c + "6x1", 4);
                supperFault("5x1,6x1," + c, 8);
            }
        }
        supperFault("5x1,6x1;7x1", 7);
        supperFault("5X1", 1);
        supperFault("5xx1", 2);
        supperFault("5x1,,6x1", 4);
        supperFault("5x1x1", 3);
        supperFault("x1", 0);
        // The first fault is told, not a later one.
        supperFault("21x0,", 0);
        supperFault("5y100", 1);
        supperFault("5x100y", 2);
    }

    /** "(the end: how many bytes there are)" */
    private static void theEnd() {
        supperFault("", 0);
        supperFault("5", 1);
        supperFault("05", 2);
        supperFault("5x", 2);
        supperFault("5x1,", 4);
        supperFault("5x1,6", 5);
        supperFault("5x1,6x", 6);
        supperFault(" ", 1);
        supperFault("5  ", 3);
        supperFault("5x  ", 4);
        supperFault("5x1,  ", 6);
        supperFault(BLANKS, 80);
        supperFault(BLANKS.substring(0, 79) + "5", 80);
        supperFault(BLANKS.substring(0, 79) + "x", 79);
        guestsFault("", 0);
        guestsFault(" ", 1);
        guestsFault("s;", 2);
        guestsFault("s5;", 3);
        guestsFault("s5; ", 4);
        guestsFault("n;  ", 4);
        guestsFault(BLANKS, 80);
        guestsFault(BLANKS.substring(0, 78) + "s;", 80);
        guests(BLANKS.substring(0, 79) + "s", 1);
    }

    /** "all others have none"; what a SUPPER leaves as it is. */
    private static void supperInPlace() {
        FarthestPays x = Due.at("0x99,1x1,20x99", "s4;n", 2, 1);
        x.weight(19, 5);
        x.night(4);
        Due.due("9 in place of those told", Due.supper(x, "1x2"), 2);
        for (int sum = 0; sum <= 20; sum++) {
            Due.due("9 all others have none, " + sum, x.weight(sum, 0), sum == 1 ? 2 : 0);
        }
        Due.due("9 guests stay", x.count(0) * 100 + x.told(0, 1) * 10 + x.told(1, 0), 242);
        Due.due("9 nights stay", x.count(3), 1);
        Due.due("9 who stays", x.rule(0, 0), 2);
        Due.due("9 ties stay", x.rule(1, 0), 1);
        // After a fault those that its TEXT names stay as they were, too.
        FarthestPays y = Due.at("5x7,6x8", "");
        Due.due("9 a late fault", Due.supper(y, "5x1,6x2,7x3,8x"), -34);
        Due.due("9 those told stay", y.weight(5, 0) * 100 + y.weight(6, 0) * 10 + y.weight(7, 0), 780);
    }

    /** "THE TAPE, which is empty then (whatever is answered)" */
    private static void supperTapeIsEmpty() {
        FarthestPays x = new FarthestPays();
        Due.due("9 an empty tape", x.supper(), -20);
        Due.due("9 and again", x.supper(), -20);
        Due.due("9 taken", Due.supper(x, "5x1"), 1);
        Due.due("9 empty behind what was taken", x.supper(), -20);
        Due.due("9 refused", Due.supper(x, "5x1,6"), -25);
        Due.due("9 empty behind a fault", x.supper(), -20);
        Due.due("9 a full one refused", Due.supper(x, BLANKS), -100);
        Due.due("9 room for 8", x.type(Due.bytes("5x1,6x1 "), 8), 8);
        Due.due("9 a guests' text", x.guests(), -20);
        Due.due("9 supper behind guests' fault", x.supper(), -20);
    }

    /** "GUESTS are a TEXT: 1 to 9 with ; between: s f n k (KINDS in this order)". */
    private static void oneToNineGuests() {
        String text = "";
        for (int n = 1; n <= 9; n++) {
            text = text + (n == 1 ? "" : ";") + "sfnk".charAt(n % 4);
            guests(text, n);
            guestsFault(text + ";", n == 9 ? text.length() : text.length() + 1);
            guestsFault(";" + text, 0);
            FarthestPays x = Due.at("", text);
            for (int g = 0; g < n; g++) {
                Due.due("10 kind " + g + " of " + n, x.told(g, 0), (g + 1) % 4);
                Due.due("10 slip " + g + " of " + n, x.told(g, 1), 0);
            }
            Due.due("10 one more behind " + n, x.guest(0), n == 9 ? -3 : n);
        }
        guestsFault(text + ";s", text.length());
        guestsFault(text + " ; s", text.length() + 1);
        guests("s20;s20;s20;s20;s20;s20;s20;s20;s20", 9);
    }

    /** "perhaps a number (SLIP; 0, if not told ..)" */
    private static void guestsNumbers() {
        for (int slip = 0; slip <= 20; slip++) {
            FarthestPays x = Due.at("", "s" + slip + ";f" + slip + ";k" + slip);
            Due.due("10 shrewd " + slip, x.told(0, 1), slip);
            Due.due("10 fool " + slip, x.told(1, 1), slip);
            Due.due("10 knowing " + slip, x.told(2, 1), slip);
        }
        guestsFault("s21", 1);
        guestsFault("f21", 1);
        guestsFault("k21", 1);
        guestsFault("s100", 1);
        guestsFault("s256", 1);
        guestsFault("s4294967296", 1);
        guestsFault("s18446744073709551616", 1);
        guestsFault("s1" + "0".repeat(78), 1);
        guestsFault("s5;k21;f", 4);
        FarthestPays x = Due.at("", "s9;k9");
        Due.guests(x, "s;k");
        Due.due("10 0, if not told, not what was", x.told(0, 1) + x.told(1, 1), 0);
    }

    /** "(.. of n none is told)" */
    private static void noughtsTellNone() {
        guestsFault("n0", 1);
        guestsFault("n 0", 2);
        guestsFault("n5", 1);
        guestsFault("n21", 1);
        guestsFault("s5;n0;k", 4);
        guests("n", 1);
        guests("s5;n;k5", 3);
        FarthestPays x = Due.at("", "s5;s7");
        Due.guests(x, "s5;n");
        Due.due("10 a nought's slip is 0", x.told(1, 1), 0);
    }

    private static void guestsFaultsAnywhere() {
        for (char c = 33; c <= 126; c++) {
            boolean figure = c >= '0' && c <= '9';
            boolean kind = c == 's' || c == 'f' || c == 'n' || c == 'k';
            if (!kind) {
                guestsFault("" + c, 0);
                guestsFault("s;" + c, 2);
                guestsFault("s5; " + c + "k", 4);
            }
            if (!figure && c != ';') {
                guestsFault("s" + c, 1);
                guestsFault("s5" + c, 2);
                guestsFault("s5 " + c + "6", 3);
            }
            if (c != ';') {
                guestsFault("n" + c, 1);
            }
        }
        guestsFault("s;;f", 2);
        guestsFault("s5,f", 2);
        guestsFault("5s", 0);
        guestsFault("K", 0);
        // The first fault is told, not a later one.
        guestsFault("s21;n0", 1);
        guestsFault("s 99 x", 2);
    }

    /** "in place of those told; NIGHTS go": the LAWS, THE SUPPER and an IMAGE stay. */
    private static void guestsInPlace() {
        FarthestPays x = Due.at("3x4,5x1", "s1;s2;s3;s4;s5;s6;s7;s8;s9", 3, 2);
        for (int i = 0; i < 12; i++) {
            x.night(9);
        }
        x.image();
        Due.due("10 knew", x.knew(), 1 << 8);
        Due.due("10 one in place of nine", Due.guests(x, "k5"), 1);
        Due.due("10 the only one", x.told(0, 0) * 10 + x.told(0, 1), 35);
        Due.due("10 no second one", x.told(1, 0), -1);
        Due.due("10 nights go", x.count(3), 0);
        Due.due("10 nobody knew", x.knew(), 0);
        Due.due("10 nights come anew", x.night(5), 0);
        Due.due("10 he knew", x.knew(), 1);
        Due.due("10 who stays", x.rule(0, 3), 3);
        Due.due("10 ties stay", x.rule(1, 2), 2);
        Due.due("10 the supper stays", x.count(2), 5);
        Due.due("10 the same ones again", Due.guests(x, "k5"), 1);
        Due.due("10 nights go, too", x.count(3), 0);
        Due.due("10 the image stays", x.restore(), 1);
        Due.due("10 its guests", x.count(0), 9);
        Due.due("10 its nights", x.count(3), 12);
        Due.due("10 who knew then", x.knew(), 1 << 8);
    }

    private static void guestsTapeIsEmpty() {
        FarthestPays x = new FarthestPays();
        Due.due("10 an empty tape", x.guests(), -20);
        Due.due("10 and again", x.guests(), -20);
        Due.due("10 taken", Due.guests(x, "s5"), 1);
        Due.due("10 empty behind what was taken", x.guests(), -20);
        Due.due("10 refused", Due.guests(x, "s5;"), -23);
        Due.due("10 empty behind a fault", x.guests(), -20);
        Due.due("10 a full one refused", Due.guests(x, BLANKS), -100);
        Due.due("10 room for 8", x.type(Due.bytes("s1;s2;s3"), 8), 8);
        Due.due("10 a supper's text", x.supper(), -20);
        Due.due("10 guests behind supper's fault", x.guests(), -20);
        Due.due("10 those told stayed all along", x.told(0, 1), 5);
    }
}
