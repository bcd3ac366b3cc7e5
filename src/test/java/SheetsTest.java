/** Promises 28 to 32. */
public final class SheetsTest {
    private static final int MIN = Integer.MIN_VALUE, MAX = Integer.MAX_VALUE;

    private SheetsTest() {
    }

    public static void main(String[] args) {
        mixed();
        mixedRefused();
        mixedOrder();
        sheet();
        drop();
        item();
        film();
        Due.finish("SheetsTest");
    }

    private static FarthestPays withRow(int lane, long... items) {
        FarthestPays x = Due.at("10x1,4x2", "s10;s7;n");
        x.sheet(0, lane, items.length);
        for (int i = 0; i < items.length; i++) {
            x.item(0, lane, i, items[i]);
        }
        return x;
    }

    private static void mixed() {
        for (int lane = 0; lane < 3; lane++) {
            FarthestPays x = withRow(lane, 0, 1, 0, 0, 0, 3, 99);
            // He writes 0: for 10 and for 4 he is off as far as the nought, and the first, so he pays all: 18 by 3.
            Due.due("28 at 0, above", x.mixed(0, 0, lane, 1, 1, 0), 6);
            Due.due("28 at 0, below", x.mixed(0, 0, lane, 1, 1, 1), 1);
            Due.due("28 at 0, and 1 by none", x.mixed(0, 0, lane, 1, 2, 0), 6);
            // By one of four he writes 0 (6), by three of four 4 (0).
            Due.due("28 quarters, above", x.mixed(0, 0, lane, 1, 5, 0), 3);
            Due.due("28 quarters, below", x.mixed(0, 0, lane, 1, 5, 1), 2);
            Due.due("28 slips stay", x.told(0, 1), 10);
            Due.due("28 a nought writes, too", x.mixed(2, 0, lane, 6, 1, 0), 10);
            Due.due("28 a nought stays", x.told(2, 1), 0);
        }
        FarthestPays most = withRow(2, 99, 99, 99, 99, 99, 99, 99, 99, 99, 99, 99,
            99, 99, 99, 99, 99, 99, 99, 99, 99, 99, 0, 0, 0);
        Due.due("28 all 21", most.mixed(1, 0, 2, 0, 21, 1) > 0 ? 1 : 0, 1);
        Due.due("28 21 of 24 from 3", most.mixed(1, 0, 2, 3, 21, 1) > 0 ? 1 : 0, 1);
        Due.due("28 all 0", most.mixed(1, 0, 2, 21, 3, 1), -2);
        // The nearest pays: by 0 he pays for 4 (8 by 3), by 1 for 10, too (18 by 3).
        FarthestPays part = withRow(0, 5, 1, 1, 7);
        Due.guests(part, "s20;s");
        part.rule(0, 1);
        Due.due("28 one alone, above", part.mixed(1, 0, 0, 1, 1, 0), 8);
        Due.due("28 one alone, below", part.mixed(1, 0, 0, 1, 1, 1), 3);
        Due.due("28 two alone, above", part.mixed(1, 0, 0, 1, 2, 0), 13);
        Due.due("28 two alone, below", part.mixed(1, 0, 0, 1, 2, 1), 3);
    }

    private static void mixedRefused() {
        FarthestPays x = withRow(1, 1, 100, -1, 0, 5);
        Due.due("28 guest above", x.mixed(3, 0, 1, 0, 1, 0), -1);
        Due.due("28 guest below", x.mixed(-1, 0, 1, 0, 1, 0), -1);
        Due.due("28 sheet above", x.mixed(0, 4, 1, 0, 1, 0), -1);
        Due.due("28 sheet below", x.mixed(0, -1, 1, 0, 1, 0), -1);
        Due.due("28 lane above", x.mixed(0, 0, 3, 0, 1, 0), -1);
        Due.due("28 lane below", x.mixed(0, 0, -1, 0, 1, 0), -1);
        Due.due("28 n 0", x.mixed(0, 0, 1, 0, 0, 0), -1);
        Due.due("28 n 22", x.mixed(0, 0, 1, 0, 22, 0), -1);
        Due.due("28 part above", x.mixed(0, 0, 1, 0, 1, 2), -1);
        Due.due("28 part below", x.mixed(0, 0, 1, 0, 1, -1), -1);
        Due.due("28 null", x.mixed(0, 1, 1, 0, 1, 0), -11);
        Due.due("28 cast", x.mixed(0, 0, 0, 0, 1, 0), -12);
        Due.due("28 from below", x.mixed(0, 0, 1, -1, 1, 0), -13);
        Due.due("28 from far below", x.mixed(0, 0, 1, MIN, 21, 0), -13);
        Due.due("28 from the end", x.mixed(0, 0, 1, 5, 1, 0), -13);
        Due.due("28 from far", x.mixed(0, 0, 1, MAX, 21, 0), -13);
        Due.due("28 over the end", x.mixed(0, 0, 1, 4, 2, 0), -13);
        Due.due("28 100", x.mixed(0, 0, 1, 0, 2, 0), -2);
        Due.due("28 -1", x.mixed(0, 0, 1, 2, 1, 0), -2);
        Due.due("28 -1 and more", x.mixed(0, 0, 1, 2, 3, 0), -2);
        Due.due("28 0 alone", x.mixed(0, 0, 1, 3, 1, 0), -2);
        Due.due("28 the last one", x.mixed(0, 0, 1, 4, 1, 1), 1);
        FarthestPays longs = withRow(2, 1L << 32, Long.MAX_VALUE, Long.MIN_VALUE);
        for (int i = 0; i < 3; i++) {
            Due.due("28 a long " + i, longs.mixed(0, 0, 2, i, 1, 0), -2);
        }
    }

    private static void mixedOrder() {
        FarthestPays x = withRow(1, 1, 100);
        Due.supper(x, "1x1");
        x.weight(1, 0);
        Due.due("28 no weight", x.mixed(0, 0, 1, 0, 1, 0), -2);
        Due.due("28 INDEX ahead of NOT", x.mixed(0, 0, 1, 1, 2, 0), -13);
        Due.due("28 CAST ahead of INDEX", x.mixed(0, 0, 2, 1, 2, 0), -12);
        Due.due("28 NULL ahead of INDEX", x.mixed(0, 3, 2, 1, 2, 0), -11);
        Due.due("28 BAD ahead of NULL", x.mixed(0, 3, 2, 1, 0, 0), -1);
        Due.due("28 BAD ahead of CAST", x.mixed(9, 0, 2, 1, 1, 0), -1);
    }

    private static void sheet() {
        FarthestPays x = new FarthestPays();
        Due.due("29 none", x.sheet(0, 0, 0), 0);
        Due.due("29 it is there", x.drop(0), 0);
        for (int lane = 0; lane < 3; lane++) {
            Due.due("29 lane " + lane, x.sheet(lane + 1, lane, 24), 24);
            Due.due("29 item 23", x.item(lane + 1, lane, 23, 7), 1);
            Due.due("29 no item 24", x.item(lane + 1, lane, 24, 7), -13);
        }
        Due.due("29 sheet above", x.sheet(4, 0, 1), -1);
        Due.due("29 sheet below", x.sheet(-1, 0, 1), -1);
        Due.due("29 lane above", x.sheet(0, 3, 1), -1);
        Due.due("29 lane below", x.sheet(0, -1, 1), -1);
        Due.due("29 n above", x.sheet(0, 0, 25), -1);
        Due.due("29 n far above", x.sheet(0, 0, MAX), -1);
        Due.due("29 n below", x.sheet(0, 0, -1), -14);
        Due.due("29 n far below", x.sheet(0, 0, MIN), -14);
        Due.due("29 BAD ahead of SIZE", x.sheet(4, 0, -1), -1);
        Due.due("29 lane is BAD ahead of SIZE", x.sheet(0, 3, -1), -1);
        Due.due("29 refused changes nothing", x.drop(0), -11);
        FarthestPays y = withRow(0, 3, 3);
        Due.due("29 a new row", y.sheet(0, 0, 1), 1);
        Due.due("29 of 0", y.mixed(0, 0, 0, 0, 1, 0), -2);
        Due.due("29 of one", y.item(0, 0, 1, 1), -13);
    }

    private static void drop() {
        FarthestPays x = withRow(0, 3, 3);
        Due.due("30 two", x.drop(0), 2);
        Due.due("30 nothing", x.drop(0), -11);
        Due.due("30 nothing at first", x.drop(3), -11);
        Due.due("30 above", x.drop(4), -1);
        Due.due("30 below", x.drop(-1), -1);
    }

    private static void item() {
        FarthestPays x = Due.at("10x1", "s10;s7");
        long[] kept = {5 + (1L << 16), 5 + (1L << 32), 5};
        long[] not = {5 + (1L << 15), 5 + (1L << 31), 5 + (1L << 32)};
        for (int lane = 0; lane < 3; lane++) {
            x.sheet(lane, lane, 2);
            Due.due("31 lowest bits", x.item(lane, lane, 0, kept[lane]), 1);
            Due.due("31 are 5, lane " + lane, x.mixed(0, lane, lane, 0, 1, 1), 1);
            Due.due("31 with the sign", x.item(lane, lane, 0, not[lane]), 1);
            Due.due("31 are not 5, lane " + lane, x.mixed(0, lane, lane, 0, 1, 1), -2);
            Due.due("31 below 0", x.item(lane, lane, 0, -1), 1);
            Due.due("31 is below 0, lane " + lane, x.mixed(0, lane, lane, 0, 1, 1), -2);
            Due.due("31 the other one", x.item(lane, lane, 1, 1), 1);
            Due.due("31 is 1", x.mixed(0, lane, lane, 1, 1, 1), 1);
            Due.due("31 index below", x.item(lane, lane, -1, 1), -13);
            Due.due("31 index above", x.item(lane, lane, 2, 1), -13);
            Due.due("31 index far", x.item(lane, lane, MAX, 1), -13);
            Due.due("31 index far below", x.item(lane, lane, MIN, 1), -13);
            Due.due("31 cast, lane " + lane, x.item(lane, (lane + 1) % 3, 0, 1), -12);
            Due.due("31 CAST ahead of INDEX", x.item(lane, (lane + 1) % 3, 2, 1), -12);
        }
        Due.due("31 null", x.item(3, 0, 0, 1), -11);
        Due.due("31 NULL ahead of INDEX", x.item(3, 0, -1, 1), -11);
        Due.due("31 sheet above", x.item(4, 0, 0, 1), -1);
        Due.due("31 sheet below", x.item(-1, 0, 0, 1), -1);
        Due.due("31 lane above", x.item(3, 3, 0, 1), -1);
        Due.due("31 lane below", x.item(0, -1, 0, 1), -1);
    }

    private static void film() {
        FarthestPays x = Due.at("10x1", "s10;s7;s1");
        for (int lane = 0; lane < 3; lane++) {
            x.sheet(lane, lane, 5);
            Due.due("32 three, lane " + lane, x.film(lane, lane, 2), 3);
            // As weights 10, 7, 1 of 0, 1, 2: the third one is off by 9, so the first one pays by 0 and by 1.
            Due.due("32 the mixing, above", x.mixed(0, lane, lane, 2, 3, 0), 85);
            Due.due("32 the mixing, below", x.mixed(0, lane, lane, 2, 3, 1), 9);
            Due.due("32 what stood ahead", x.mixed(0, lane, lane, 0, 2, 0), -2);
            Due.due("32 from 3", x.film(lane, lane, 3), -13);
            Due.due("32 from below", x.film(lane, lane, -1), -13);
            Due.due("32 from far", x.film(lane, lane, MAX), -13);
            Due.due("32 from far below", x.film(lane, lane, MIN), -13);
            Due.due("32 refused changes nothing", x.mixed(0, lane, lane, 0, 2, 0), -2);
            Due.due("32 cast", x.film(lane, (lane + 1) % 3, 2), -12);
            Due.due("32 CAST ahead of INDEX", x.film(lane, (lane + 1) % 3, 3), -12);
        }
        Due.due("32 null", x.film(3, 0, 0), -11);
        Due.due("32 sheet above", x.film(4, 0, 0), -1);
        Due.due("32 sheet below", x.film(-1, 0, 0), -1);
        Due.due("32 lane above", x.film(3, 3, 0), -1);
        Due.due("32 lane below", x.film(0, -1, 0), -1);
        filmAndNoMore();
        filmOfNobody();
    }

    private static void filmAndNoMore() {
        FarthestPays x = Due.at("10x1", "s10;s7");
        x.sheet(0, 0, 4);
        for (int i = 0; i < 4; i++) {
            x.item(0, 0, i, i == 0 ? 100 : 1);
        }
        Due.due("32 two", x.film(0, 0, 1), 2);
        Due.due("32 not ahead", x.mixed(0, 0, 0, 0, 1, 1), -2);
        Due.due("32 the first", x.mixed(0, 0, 0, 1, 1, 1), 1);
        Due.due("32 the last", x.mixed(0, 0, 0, 2, 1, 1), 1);
        Due.due("32 not behind", x.mixed(0, 0, 0, 3, 1, 1), 1);
    }

    private static void filmOfNobody() {
        FarthestPays x = new FarthestPays();
        Due.due("32 nobody, null", x.film(0, 0, 0), -11);
        x.sheet(0, 0, 2);
        Due.due("32 nobody", x.film(0, 0, 0), 0);
        Due.due("32 nobody at the end", x.film(0, 0, 2), 0);
        Due.due("32 nobody above", x.film(0, 0, 3), -13);
        Due.due("32 nobody below", x.film(0, 0, -1), -13);
        x.sheet(0, 0, 0);
        Due.due("32 nobody, no items", x.film(0, 0, 0), 0);
        Due.due("32 nobody, above no items", x.film(0, 0, 1), -13);
    }
}
