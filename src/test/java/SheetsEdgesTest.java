/** Promises 28 to 32 at their edges. */
public final class SheetsEdgesTest {
    private static final int MIN = Integer.MIN_VALUE, MAX = Integer.MAX_VALUE;

    private SheetsEdgesTest() {
    }

    public static void main(String[] args) {
        nothingAtFirst();
        rowsOf0To24Items();
        aRowOfNoItems();
        aNewRowInPlace();
        refusedRowsKeepWhatIsThere();
        anotherLane();
        indexOfItems();
        lowestBits();
        itemsApart();
        mixedFromAndN();
        mixedWeights();
        mixedIsAMean();
        mixedOfAnyKind();
        filmFrom();
        filmOfNobody();
        filmOfNine();
        dropping();
        Due.finish("SheetsEdgesTest");
    }

    /** What a row holds, by mixed of one item: the weight itself is not told, but whether it is 1 .. 99. */
    private static boolean isWeight(FarthestPays x, int sheet, int lane, int i) {
        return x.mixed(0, sheet, lane, i, 1, 1) > 0;
    }

    /** Two guests: for 20 the second one, who wrote 0, pays but by the first one's 0. */
    private static FarthestPays two() {
        return Due.at("20x1", "s5;s0");
    }

    /** An item 0 .. 99 at i, ahead of a 1: by 0 he pays 20, by 1 nothing. */
    private static void item(String name, FarthestPays x, int sheet, int lane, int i, int weight) {
        x.item(sheet, lane, i + 1, 1);
        long top = x.mixed(0, sheet, lane, i, 2, 0);
        long below = x.mixed(0, sheet, lane, i, 2, 1);
        Due.due(name, top * (weight + 1) == below * 20 * weight && below > 0 ? weight : -1, weight);
    }

    /** "sheets 0 .. 3: nothing (at first)" */
    private static void nothingAtFirst() {
        FarthestPays x = two();
        for (int sheet = 0; sheet < 4; sheet++) {
            for (int lane = 0; lane < 3; lane++) {
                String name = sheet + " of " + lane;
                Due.due("28 nothing at first, " + name, x.mixed(0, sheet, lane, 0, 1, 0), -11);
                Due.due("31 nothing at first, " + name, x.item(sheet, lane, 0, 1), -11);
                Due.due("32 nothing at first, " + name, x.film(sheet, lane, 0), -11);
            }
            Due.due("30 nothing at first, " + sheet, x.drop(sheet), -11);
        }
    }

    /** "a row of a LANE .. of 0 to 24 items" */
    private static void rowsOf0To24Items() {
        for (int lane = 0; lane < 3; lane++) {
            FarthestPays x = two();
            for (int n = 0; n <= 24; n++) {
                String name = n + " of " + lane;
                Due.due("29 " + name, x.sheet(3, lane, n), n);
                if (n > 0) {
                    Due.due("31 the first, " + name, x.item(3, lane, 0, 1), 1);
                    Due.due("31 the last, " + name, x.item(3, lane, n - 1, 1), 1);
                }
                Due.due("31 behind the last, " + name, x.item(3, lane, n, 1), -13);
                Due.due("28 behind the last, " + name, x.mixed(0, 3, lane, n, 1, 0), -13);
                Due.due("30 how many, " + name, x.drop(3), n);
            }
        }
    }

    /** A row of 0 items is there, other than nothing. */
    private static void aRowOfNoItems() {
        for (int lane = 0; lane < 3; lane++) {
            FarthestPays x = two();
            x.sheet(2, lane, 0);
            Due.due("31 no items, " + lane, x.item(2, lane, 0, 1), -13);
            Due.due("31 no items, another lane, " + lane, x.item(2, (lane + 1) % 3, 0, 1), -12);
            Due.due("28 no items, " + lane, x.mixed(0, 2, lane, 0, 1, 0), -13);
            Due.due("32 no items, " + lane, x.film(2, lane, 0), -13);
            Due.due("30 no items, " + lane, x.drop(2), 0);
            Due.due("30 nothing then, " + lane, x.drop(2), -11);
            Due.due("31 nothing then, " + lane, x.item(2, lane, 0, 1), -11);
        }
    }

    /** "A SHEET holds a new row of a LANE": of items 0, whatever stood there. */
    private static void aNewRowInPlace() {
        FarthestPays x = two();
        for (int before = 0; before < 3; before++) {
            for (int lane = 0; lane < 3; lane++) {
                x.sheet(1, before, 24);
                for (int i = 0; i < 24; i++) {
                    x.item(1, before, i, 99);
                }
                Due.due("29 in place of " + before, x.sheet(1, lane, 23), 23);
                for (int i = 0; i < 23; i += 11) {
                    Due.due("29 item " + i + " is 0", x.mixed(0, 1, lane, i, 1, 1), -2);
                }
                Due.due("29 no item 23 any more", x.mixed(0, 1, lane, 23, 1, 1), -13);
                Due.due("29 the other lane", x.item(1, (lane + 1) % 3, 0, 1), -12);
            }
        }
        x.sheet(1, 0, 4);
        x.item(1, 0, 0, 7);
        x.drop(1);
        x.sheet(1, 0, 4);
        Due.due("29 anew behind nothing", x.mixed(0, 1, 0, 0, 4, 1), -2);
        // SHEETS are apart.
        x.sheet(0, 0, 2);
        x.item(0, 0, 1, 5);
        x.sheet(1, 0, 2);
        Due.due("29 another sheet's row stays", isWeight(x, 0, 0, 1) ? 1 : 0, 1);
        x.drop(1);
        Due.due("30 another sheet's row stays", isWeight(x, 0, 0, 1) ? 1 : 0, 1);
    }

    /** "BAD: also n above 24; SIZE: n below 0." */
    private static void refusedRowsKeepWhatIsThere() {
        FarthestPays x = two();
        x.sheet(0, 1, 3);
        x.item(0, 1, 2, 9);
        int[] few = {-1, -2, -24, MIN};
        for (int n : few) {
            Due.due("29 n " + n, x.sheet(0, 0, n), -14);
            Due.due("29 n " + n + " of no lane", x.sheet(0, 3, n), -1);
            Due.due("29 n " + n + " of no sheet", x.sheet(4, 0, n), -1);
        }
        int[] many = {25, 26, 256, 65536, MAX};
        for (int n : many) {
            Due.due("29 n " + n, x.sheet(0, 0, n), -1);
        }
        Due.due("29 what is there stays", isWeight(x, 0, 1, 2) ? 1 : 0, 1);
        Due.due("29 its items", x.drop(0), 3);
    }

    /** "CAST -12 (of SHEETS another LANE)" */
    private static void anotherLane() {
        FarthestPays x = two();
        for (int lane = 0; lane < 3; lane++) {
            x.sheet(lane, lane, 3);
            for (int other = 0; other < 3; other++) {
                String name = lane + " taken as " + other;
                Due.due("31 " + name, x.item(lane, other, 0, 1), lane == other ? 1 : -12);
                Due.due("28 " + name, x.mixed(0, lane, other, 0, 1, 1), lane == other ? 1 : -12);
                Due.due("32 " + name, x.film(lane, other, 1), lane == other ? 2 : -12);
                Due.due("31 CAST ahead of INDEX, " + name, x.item(lane, other, 3, 1), lane == other ? -13 : -12);
                Due.due("28 CAST ahead of INDEX, " + name, x.mixed(0, lane, other, -1, 1, 1), lane == other ? -13 : -12);
                Due.due("32 CAST ahead of INDEX, " + name, x.film(lane, other, 2), lane == other ? -13 : -12);
            }
        }
        x.sheet(0, 2, 3);
        Due.due("31 it is of longs now", x.item(0, 2, 0, 1), 1);
        Due.due("31 and of shorts no more", x.item(0, 0, 0, 1), -12);
    }

    private static void indexOfItems() {
        FarthestPays x = two();
        x.sheet(0, 0, 24);
        int[] none = {-1, -2, 24, 25, 48, 256, 65536, 1 << 31, MIN + 1, MIN + 23, MAX, MAX - 23};
        for (int i : none) {
            Due.due("31 item " + i, x.item(0, 0, i, 1), -13);
            Due.due("28 from " + i, x.mixed(0, 0, 0, i, 1, 1), -13);
            Due.due("28 21 from " + i, x.mixed(0, 0, 0, i, 21, 1), -13);
            Due.due("32 from " + i, x.film(0, 0, i), -13);
        }
        for (int i = 0; i < 24; i++) {
            Due.due("31 nothing was written at " + i, x.mixed(0, 0, 0, i, 1, 1), -2);
        }
        for (int i = 0; i < 24; i++) {
            Due.due("31 item " + i, x.item(0, 0, i, 1), 1);
        }
    }

    /** "becomes v, its lowest bits (with its sign)" */
    private static void lowestBits() {
        for (int lane = 0; lane < 3; lane++) {
            int bits = lane == 0 ? 16 : 32;
            for (int weight = 0; weight <= 99; weight += 33) {
                FarthestPays x = two();
                x.sheet(0, lane, 3);
                x.item(0, lane, 0, weight);
                item("31 " + weight + " of " + lane, x, 0, lane, 0, weight);
                long[] like = {1L << bits, 7L << bits, -1L << bits, 1L << 48, 1L << 63};
                for (long more : like) {
                    Due.due("31 " + weight + " and " + more, x.item(0, lane, 0, weight + more), 1);
                    if (lane < 2) {
                        item("31 " + weight + " and " + more + " of " + lane, x, 0, lane, 0, weight);
                    } else {
                        Due.due("31 " + weight + " and " + more + ", all of it", x.mixed(0, 0, 2, 0, 1, 1), -2);
                    }
                }
                long[] unlike = {100, -100, 1L << bits - 1, -1L << bits - 1, 256 * (weight + 1)};
                for (long more : unlike) {
                    x.item(0, lane, 0, weight + more);
                    Due.due("31 " + weight + " and " + more + " of " + lane, x.mixed(0, 0, lane, 0, 2, 1), -2);
                }
            }
        }
        // Shorts of 65535, and ints of 2 ^ 32 - 1, are -1, which is no WEIGHT, and not 99 or less.
        FarthestPays x = two();
        long[] ones = {0xFFFFL, 0xFFFFFFFFL, -1L};
        for (int lane = 0; lane < 3; lane++) {
            x.sheet(lane, lane, 2);
            x.item(lane, lane, 1, 1);
            x.item(lane, lane, 0, ones[lane]);
            Due.due("31 -1 of " + lane, x.mixed(0, lane, lane, 0, 2, 1), -2);
            x.item(lane, lane, 0, ones[lane] + 1);
            item("31 0 of " + lane, x, lane, lane, 0, 0);
        }
        // What is 0 as a short is none as an int, and what is 0 as an int none as a long.
        x.item(1, 1, 0, 1L << 16);
        Due.due("31 an int is no short", x.mixed(0, 1, 1, 0, 2, 1), -2);
        x.item(2, 2, 0, 1L << 32);
        Due.due("31 a long is no int", x.mixed(0, 2, 2, 0, 2, 1), -2);
    }

    private static void itemsApart() {
        FarthestPays x = two();
        x.sheet(0, 0, 3);
        x.item(0, 0, 1, 1);
        Due.due("31 the one ahead stays", x.mixed(0, 0, 0, 0, 1, 1), -2);
        Due.due("31 the one itself", x.mixed(0, 0, 0, 1, 1, 1), 1);
        Due.due("31 the one behind stays", x.mixed(0, 0, 0, 2, 1, 1), -2);
        x.item(0, 0, 1, 0);
        Due.due("31 it is 0 again", x.mixed(0, 0, 0, 1, 1, 1), -2);
    }

    /** "SUMS 0 .. n - 1 (n 1 .. 21), items of a SHEET, .. from one on" */
    private static void mixedFromAndN() {
        FarthestPays x = two();
        x.sheet(0, 0, 24);
        for (int i = 0; i < 24; i++) {
            x.item(0, 0, i, 1);
        }
        for (int n = 1; n <= 21; n++) {
            // By 0 he pays 20, by all others nothing: 20 by n.
            for (int from = 0; from <= 24 - n; from++) {
                Due.due("28 " + n + " from " + from, x.mixed(0, 0, 0, from, n, 0) * n, 20 * x.mixed(0, 0, 0, from, n, 1));
            }
            Due.due("28 " + n + " from the last that may be", x.mixed(0, 0, 0, 24 - n, n, 1) > 0 ? 1 : 0, 1);
            Due.due("28 " + n + " over the end", x.mixed(0, 0, 0, 25 - n, n, 1), -13);
            Due.due("28 " + n + " from -1", x.mixed(0, 0, 0, -1, n, 1), -13);
            Due.due("28 " + n + " from the most", x.mixed(0, 0, 0, MAX, n, 1), -13);
            Due.due("28 " + n + " from the least", x.mixed(0, 0, 0, MIN, n, 1), -13);
        }
        // What stands behind SUM n - 1 does not count: 0 pays by 0 and by 1 here, not by 2.
        FarthestPays y = Due.at("20x1", "s5;s1");
        y.sheet(0, 0, 4);
        y.item(0, 0, 1, 1);
        y.item(0, 0, 2, 1);
        y.item(0, 0, 3, 2);
        Due.due("28 n 1, of 0 alone", y.mixed(0, 0, 0, 0, 1, 0), -2);
        Due.due("28 n 2, of 0 and 1", y.mixed(0, 0, 0, 0, 2, 0), 20);
        Due.due("28 n 3, of 0 .. 2", y.mixed(0, 0, 0, 0, 3, 0), 10);
        Due.due("28 n 4, of 0 .. 3", y.mixed(0, 0, 0, 0, 4, 0), 5);
        Due.due("28 n 1 from 1", y.mixed(0, 0, 0, 1, 1, 0), 20);
        Due.due("28 n 3 from 1", y.mixed(0, 0, 0, 1, 3, 0), 10);
        Due.due("28 n 22, though there are items", x.mixed(0, 0, 0, 0, 22, 1), -1);
        Due.due("28 n 24, though there are items", x.mixed(0, 0, 0, 0, 24, 1), -1);
        Due.due("28 n 0", x.mixed(0, 0, 0, 0, 0, 1), -1);
        Due.due("28 n below 0", x.mixed(0, 0, 0, 5, -1, 1), -1);
        x.sheet(1, 0, 20);
        x.item(1, 0, 0, 1);
        Due.due("28 21 of 20", x.mixed(0, 1, 0, 0, 21, 1), -13);
        Due.due("28 20 of 20", x.mixed(0, 1, 0, 0, 20, 1), 1);
    }

    /** "NOT: one is not 0 .. 99, all are 0, THE SUPPER has no WEIGHT" */
    private static void mixedWeights() {
        for (int lane = 0; lane < 3; lane++) {
            FarthestPays x = two();
            x.sheet(0, lane, 21);
            Due.due("28 all are 0, of " + lane, x.mixed(0, 0, lane, 0, 21, 1), -2);
            for (int i = 0; i < 21; i += 10) {
                x.item(0, lane, i, 99);
                Due.due("28 99 at " + i, x.mixed(0, 0, lane, 0, 21, 1) > 0 ? 1 : 0, 1);
                x.item(0, lane, i, 100);
                Due.due("28 100 at " + i, x.mixed(0, 0, lane, 0, 21, 1), -2);
                Due.due("28 not up to it, " + i, i == 0 ? 1 : x.mixed(0, 0, lane, 0, i, 1) > 0 ? 1 : 0, 1);
                x.item(0, lane, i, -1);
                Due.due("28 -1 at " + i, x.mixed(0, 0, lane, 0, 21, 1), -2);
                x.item(0, lane, i, 1);
                Due.due("28 1 at " + i, x.mixed(0, 0, lane, 0, 21, 1) > 0 ? 1 : 0, 1);
            }
            // Those that are not asked may be what they will.
            x.item(0, lane, 0, -5);
            x.item(0, lane, 4, 100);
            x.item(0, lane, 2, 1);
            Due.due("28 between those that are none", x.mixed(0, 0, lane, 1, 3, 1) > 0 ? 1 : 0, 1);
            // -1 and 100 together, and 1 and -1, are no WEIGHTS, though their sum may be.
            x.item(0, lane, 1, -1);
            x.item(0, lane, 2, 100);
            Due.due("28 -1 and 100", x.mixed(0, 0, lane, 1, 2, 1), -2);
            x.item(0, lane, 2, 1);
            Due.due("28 -1 and 1", x.mixed(0, 0, lane, 1, 2, 1), -2);
            x.weight(20, 0);
            x.item(0, lane, 2, 1);
            Due.due("28 no weight of the supper", x.mixed(0, 0, lane, 2, 1, 1), -2);
            x.weight(0, 1);
            Due.due("28 a weight of the supper for 0", x.mixed(0, 0, lane, 2, 1, 1), 1);
            Due.due("28 nothing is paid for 0", x.mixed(0, 0, lane, 2, 1, 0), 0);
        }
    }

    /** "MIXED ..: his MEAN, if he writes each SUM of a row of WEIGHTS by these" */
    private static void mixedIsAMean() {
        FarthestPays x = Due.at("7x1,12x2,20x4", "s5;s9;s9", 0, 1);
        x.sheet(0, 2, 24);
        for (int sum = 0; sum <= 20; sum++) {
            x.item(0, 2, sum, 1);
            if (sum > 0) {
                x.item(0, 2, sum - 1, 0);
            }
            // By one SUM alone it is the MEAN by that SLIP.
            long top = x.mixed(1, 0, 2, 0, 21, 0);
            long below = x.mixed(1, 0, 2, 0, 21, 1);
            x.slip(1, sum);
            Due.due("28 one alone is the mean, above, " + sum, top, x.mean(1, 0));
            Due.due("28 one alone is the mean, below, " + sum, below, x.mean(1, 1));
            x.slip(1, 9);
        }
        Due.due("28 his slip stays", x.told(1, 1), 9);
        // By 1 of 3 he writes 0 and pays 20, by 2 of 3 he writes 1 and pays nothing, though 0 wrote 5 ahead.
        FarthestPays y = two();
        y.sheet(0, 0, 2);
        y.item(0, 0, 0, 1);
        y.item(0, 0, 1, 2);
        Due.due("28 20 by 3, above", y.mixed(0, 0, 0, 0, 2, 0), 20);
        Due.due("28 20 by 3, below", y.mixed(0, 0, 0, 0, 2, 1), 3);
        y.item(0, 0, 0, 97);
        y.item(0, 0, 1, 97);
        Due.due("28 in lowest terms, above", y.mixed(0, 0, 0, 0, 2, 0), 10);
        Due.due("28 in lowest terms, below", y.mixed(0, 0, 0, 0, 2, 1), 1);
        y.item(0, 0, 0, 0);
        Due.due("28 nothing, above", y.mixed(0, 0, 0, 0, 2, 0), 0);
        Due.due("28 nothing, below", y.mixed(0, 0, 0, 0, 2, 1), 1);
    }

    /** "of one GUEST (of whatever KIND he is) against the others" */
    private static void mixedOfAnyKind() {
        String[] kinds = {"s", "f", "n", "k"};
        for (String kind : kinds) {
            FarthestPays x = Due.at("20x1", kind + ";s5");
            x.sheet(0, 0, 21);
            x.item(0, 0, 6, 1);
            // By 6 the other one pays, by 5 he, the first of like ones.
            Due.due("28 " + kind + " writes 6", x.mixed(0, 0, 0, 0, 21, 0), 0);
            x.item(0, 0, 5, 1);
            Due.due("28 " + kind + " writes 5 or 6", x.mixed(0, 0, 0, 0, 21, 0), 10);
            Due.due("28 " + kind + " has not written", x.told(0, 1), 0);
        }
    }

    /** "INDEX (of none, too: from below 0, or above how many there are)" */
    private static void filmFrom() {
        for (int size = 2; size <= 24; size += 11) {
            for (int lane = 0; lane < 3; lane++) {
                FarthestPays x = Due.at("20x1", "s7;s9");
                x.sheet(0, lane, size);
                for (int from = 0; from <= size - 2; from++) {
                    Due.due("32 from " + from + " of " + size, x.film(0, lane, from), 2);
                    Due.due("32 its first, " + from, isWeight(x, 0, lane, from) ? 1 : 0, 1);
                    Due.due("32 its last, " + from, isWeight(x, 0, lane, from + 1) ? 1 : 0, 1);
                    if (from + 2 < size) {
                        Due.due("32 the one behind, " + from, isWeight(x, 0, lane, from + 2) ? 1 : 0, 0);
                    }
                }
                Due.due("32 one too far of " + size, x.film(0, lane, size - 1), -13);
                Due.due("32 at the end of " + size, x.film(0, lane, size), -13);
                Due.due("32 behind the end of " + size, x.film(0, lane, size + 1), -13);
                Due.due("32 from -1 of " + size, x.film(0, lane, -1), -13);
                Due.due("32 from -2 of " + size, x.film(0, lane, -2), -13);
            }
        }
        FarthestPays apart = Due.at("20x1", "s7;s9");
        apart.sheet(0, 0, 4);
        apart.item(0, 0, 0, 3);
        apart.item(0, 0, 3, 3);
        Due.due("32 into the middle", apart.film(0, 0, 1), 2);
        Due.due("32 what stood ahead stays", isWeight(apart, 0, 0, 0) ? 1 : 0, 1);
        Due.due("32 what stood behind stays", isWeight(apart, 0, 0, 3) ? 1 : 0, 1);
        FarthestPays x = Due.at("20x1", "s7;s9;s11");
        x.sheet(0, 0, 2);
        Due.due("32 three into two", x.film(0, 0, 0), -13);
        Due.due("32 none of them", x.mixed(0, 0, 0, 0, 2, 1), -2);
        x.sheet(0, 0, 3);
        Due.due("32 three into three", x.film(0, 0, 0), 3);
        Due.guests(x, "s5;s0");
        item("32 the last one's slip", x, 0, 0, 1, 9);
        item("32 the first one's slip", x, 0, 0, 0, 7);
    }

    private static void filmOfNobody() {
        for (int lane = 0; lane < 3; lane++) {
            for (int size = 0; size <= 24; size += 8) {
                FarthestPays x = Due.at("20x1", "");
                x.sheet(0, lane, size);
                for (int from = 0; from <= size; from++) {
                    Due.due("32 none from " + from + " of " + size, x.film(0, lane, from), 0);
                }
                int[] others = {-1, MIN, size + 1, MAX};
                for (int from : others) {
                    Due.due("32 none from " + from + " of " + size, x.film(0, lane, from), -13);
                }
                Due.due("32 none, another lane", x.film(0, (lane + 1) % 3, 0), -12);
                Due.due("32 none, no sheet", x.film(1, lane, 0), -11);
                Due.due("32 none, no number of a sheet", x.film(4, lane, 0), -1);
                Due.due("32 none, no lane", x.film(0, 3, 0), -1);
            }
        }
    }

    private static void filmOfNine() {
        FarthestPays x = Due.at("20x1", "s1;f2;n;k4;s5;s6;s7;s8;s20");
        x.sheet(0, 0, 24);
        Due.due("32 nine at the end", x.film(0, 0, 15), 9);
        Due.due("32 nine too far", x.film(0, 0, 16), -13);
        int[] slips = {1, 2, 0, 4, 5, 6, 7, 8, 20};
        // Against one who wrote 0, as in two().
        Due.guests(x, "s5;s0");
        for (int g = 8; g >= 0; g--) {
            if (g < 8) {
                item("32 slip of " + g, x, 0, 0, 15 + g, slips[g]);
            } else {
                Due.due("32 slip of 8", isWeight(x, 0, 0, 23) ? 1 : 0, 1);
            }
            x.item(0, 0, 15 + g, slips[g]);
        }
        Due.due("32 nothing ahead", x.mixed(0, 0, 0, 0, 15, 1), -2);
        // What was filmed stays, when SLIPS change.
        x.film(0, 0, 0);
        x.slip(0, 0);
        item("32 the slip of then", x, 0, 0, 0, 5);
    }

    /** "A SHEET holds nothing: how many items it had." */
    private static void dropping() {
        FarthestPays x = two();
        for (int sheet = 0; sheet < 4; sheet++) {
            for (int n = 0; n <= 24; n += 8) {
                x.sheet(sheet, sheet % 3, n);
                Due.due("30 " + n + " of " + sheet, x.drop(sheet), n);
                Due.due("30 nothing of " + sheet, x.drop(sheet), -11);
                Due.due("31 nothing of " + sheet, x.item(sheet, sheet % 3, 0, 1), -11);
                Due.due("31 nothing of " + sheet + ", another lane", x.item(sheet, (sheet + 1) % 3, 0, 1), -11);
            }
        }
    }
}
