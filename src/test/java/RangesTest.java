import java.util.List;
import java.util.Set;
import java.util.TreeSet;

/** "BAD -1 (a number is not as told, or names nothing)": each number of each call, inside and outside of its range. */
public final class RangesTest {
    private static final int MIN = Integer.MIN_VALUE, MAX = Integer.MAX_VALUE;
    private static final int ALL = 0x1FFFFF;

    private interface Call {
        long on(FarthestPays x, int v);
    }

    private RangesTest() {
    }

    public static void main(String[] args) {
        sums();
        weightsKindsLaws();
        guests();
        parts();
        threeUnlike();
        setsOfSums();
        bytes();
        sheets();
        Due.finish("RangesTest");
    }

    /** Three guests, a supper, a night, sheets 0 .. 2 with 24 items of 1 each, of the lane of their number. */
    private static FarthestPays fresh() {
        FarthestPays x = Due.at("10x2,4x1", "s3;f8;k12");
        x.night(8);
        for (int sheet = 0; sheet < 3; sheet++) {
            x.sheet(sheet, sheet, 24);
            for (int i = 0; i < 24; i++) {
                x.item(sheet, sheet, i, 1);
            }
        }
        return x;
    }

    /** Every number from .. to is taken, and those beside it, or like it in its lowest bits, are BAD. */
    private static void range(String name, int from, int to, Call call) {
        for (int v = from; v <= to; v++) {
            long got = call.on(fresh(), v);
            Due.due(name + " takes " + v + ", not " + got, got == -1 ? 1 : 0, 0);
        }
        Set<Integer> others = new TreeSet<>(List.of(MIN, MIN + 1, MAX - 1, MAX, -1, from - 1, from - 2, to + 1, to + 2));
        for (int bits = 5; bits < 32; bits++) {
            others.add(from + (1 << bits));
            others.add(to + (1 << bits));
            others.add(from - (1 << bits));
            others.add(to - (1 << bits));
        }
        for (int v : others) {
            if (v < from || v > to) {
                Due.due(name + " of " + v, call.on(fresh(), v), -1);
            }
        }
    }

    /** "A SUM is 0 .. 20." */
    private static void sums() {
        range("2 weight's sum", 0, 20, (x, v) -> x.weight(v, 1));
        range("4 slip's sum", 0, 20, (x, v) -> x.slip(0, v));
        range("5 write's sum", 0, 20, (x, v) -> x.write(v));
        range("12 pay's sum", 0, 20, (x, v) -> x.pay(v));
        range("13 pays's sum", 0, 20, (x, v) -> x.pays(0, v, 0));
        range("22 night's sum", 0, 20, (x, v) -> x.night(v));
    }

    /** "a WEIGHT (0 .. 99)"; "KINDS: 0 SHREWD; .. 3 KNOWING"; "LAWS: 0 WHO PAYS (0 .. 3 ..), 1 TIES (0 .. 2 ..)". */
    private static void weightsKindsLaws() {
        range("2 weight", 0, 99, (x, v) -> x.weight(20, v));
        range("3 kind", 0, 3, (x, v) -> x.guest(v));
        range("7 law", 0, 1, (x, v) -> x.rule(v, 2));
        range("7 law by 0", 0, 1, (x, v) -> x.rule(v, 0));
        range("7 who pays", 0, 3, (x, v) -> x.rule(0, v));
        range("7 ties", 0, 2, (x, v) -> x.rule(1, v));
        range("11 count's what", 0, 3, (x, v) -> x.count(v));
        range("17 turns", 1, 40, (x, v) -> x.turns(v));
    }

    /** "GUESTS 0 .. 8, as they come": a number "names nothing" if he has not come. */
    private static void guests() {
        range("4 slip's guest", 0, 2, (x, v) -> x.slip(v, 5));
        range("6 told's guest", 0, 2, (x, v) -> x.told(v, 0));
        range("13 pays's guest", 0, 2, (x, v) -> x.pays(v, 5, 0));
        range("14 mean's guest", 0, 2, (x, v) -> x.mean(v, 0));
        range("15 best's guest", 0, 2, (x, v) -> x.best(v));
        range("20 host's guest", 0, 2, (x, v) -> x.host(ALL, v));
        range("24 leagues's guest", 0, 2, (x, v) -> x.leagues(v, 0));
        range("28 mixed's guest", 0, 2, (x, v) -> x.mixed(v, 0, 0, 0, 3, 0));
        FarthestPays nine = Due.at("10x2", "s;s;s;s;s;s;s;s;s");
        Due.due("6 guest 8 of nine", nine.told(8, 0), 0);
        Due.due("6 guest 9 of nine", nine.told(9, 0), -1);
        Due.due("15 guest 8 of nine", nine.best(8), 0);
        Due.due("15 guest 9 of nine", nine.best(9), -1);
        FarthestPays nobody = Due.at("10x2", "");
        Due.due("4 slip of nobody", nobody.slip(0, 0), -1);
        Due.due("6 told of nobody", nobody.told(0, 0), -1);
        Due.due("14 mean of nobody", nobody.mean(0, 0), -1);
        Due.due("15 best of nobody", nobody.best(0), -1);
        Due.due("20 host for nobody", nobody.host(ALL, 0), -1);
        Due.due("24 leagues against nobody", nobody.leagues(0, 0), -1);
    }

    /** "told above (part 0) and below (part 1 ..)", and the other numbers of two. */
    private static void parts() {
        range("6 told's what", 0, 1, (x, v) -> x.told(0, v));
        range("13 pays's part", 0, 1, (x, v) -> x.pays(0, 5, v));
        range("14 mean's part", 0, 1, (x, v) -> x.mean(0, v));
        range("18 league's what", 0, 1, (x, v) -> x.league(0, 1, 2, v));
        range("24 leagues's what", 0, 1, (x, v) -> x.leagues(1, v));
        range("28 mixed's part", 0, 1, (x, v) -> x.mixed(0, 0, 0, 0, 3, v));
    }

    /** "three unlike GUESTS": "BAD: also two alike". */
    private static void threeUnlike() {
        for (int a = -1; a <= 3; a++) {
            for (int b = -1; b <= 3; b++) {
                for (int c = -1; c <= 3; c++) {
                    boolean there = Math.min(a, Math.min(b, c)) >= 0 && Math.max(a, Math.max(b, c)) <= 2;
                    boolean may = there && a != b && b != c && a != c;
                    String three = a + " " + b + " " + c;
                    Due.due("18 league " + three, fresh().league(a, b, c, 0) == -1 ? 0 : 1, may ? 1 : 0);
                    Due.due("19 shun " + three, fresh().shun(a, b, c) == -1 ? 0 : 1, may ? 1 : 0);
                }
            }
        }
        range("18 league's a", 2, 2, (x, v) -> x.league(v, 0, 1, 0));
        range("18 league's b", 2, 2, (x, v) -> x.league(0, v, 1, 0));
        range("18 league's c", 2, 2, (x, v) -> x.league(0, 1, v, 0));
        range("19 shun's a", 2, 2, (x, v) -> x.shun(v, 0, 1));
        range("19 shun's b", 2, 2, (x, v) -> x.shun(0, v, 1));
        range("19 shun's c", 2, 2, (x, v) -> x.shun(0, 1, v));
    }

    /** "a set of SUMS (bits 0 .. 20)": "BAD: also the empty set, bits that are no SUMS". */
    private static void setsOfSums() {
        for (int bit = 0; bit < 32; bit++) {
            Due.due("20 host, bit " + bit, fresh().host(1 << bit, 0), bit <= 20 ? bit : -1);
            Due.due("20 host, bit 3 and " + bit, fresh().host(1 << 3 | 1 << bit, 0) == -1 ? 1 : 0, bit <= 20 ? 0 : 1);
            Due.due("21 choice, bit " + bit, fresh().choice(1 << bit), bit == 0 ? 0 : bit <= 20 ? 1 : -1);
            Due.due("21 choice, bit 3 and " + bit, fresh().choice(1 << 3 | 1 << bit) == -1 ? 1 : 0, bit <= 20 ? 0 : 1);
        }
        int[] bad = {0, ALL + 1, -1, MIN, MAX, ~ALL};
        for (int sums : bad) {
            Due.due("20 host of " + sums, fresh().host(sums, 0), -1);
            Due.due("21 choice of " + sums, fresh().choice(sums), -1);
            Due.due("21 choice of " + sums + ", nobody", new FarthestPays().choice(sums), -1);
        }
        // 0 wrote 3, 1 wrote 8, 2 wrote 12: for 8 and above the first pays, for less the third.
        Due.due("20 host of all sums", fresh().host(ALL, 0), 20);
        Due.due("21 choice of all sums", fresh().choice(ALL), 2);
    }

    /** "The n lowest bytes (1 .. 8)"; "BAD: n, a byte not 32 .. 126". */
    private static void bytes() {
        long eights = Due.bytes("        ");
        range("8 type's n", 1, 8, (x, v) -> x.type(eights, v));
        for (int place = 0; place < 8; place++) {
            for (int b = 0; b < 256; b++) {
                long w = eights & ~(255L << 8 * place) | (long) b << 8 * place;
                String name = "8 byte " + b + " at " + place;
                Due.due(name, new FarthestPays().type(w, 8), b >= 32 && b <= 126 ? 8 : -1);
                // Those above the n lowest are not looked at.
                Due.due(name + ", n as many", place == 0 ? 0 : new FarthestPays().type(w, place), place);
                Due.due(name + ", n one more", new FarthestPays().type(w, place + 1),
                    b >= 32 && b <= 126 ? place + 1 : -1);
            }
        }
    }

    /** "sheets 0 .. 3"; "a LANE: 0 shorts, 1 ints, 2 longs"; "of 0 to 24 items"; "n 1 .. 21". */
    private static void sheets() {
        range("29 sheet", 0, 3, (x, v) -> x.sheet(v, 0, 3));
        range("29 sheet's lane", 0, 2, (x, v) -> x.sheet(0, v, 3));
        range("30 drop's sheet", 0, 3, (x, v) -> x.drop(v));
        range("31 item's sheet", 0, 3, (x, v) -> x.item(v, 0, 0, 1));
        range("31 item's lane", 0, 2, (x, v) -> x.item(0, v, 0, 1));
        range("32 film's sheet", 0, 3, (x, v) -> x.film(v, 0, 0));
        range("32 film's lane", 0, 2, (x, v) -> x.film(0, v, 0));
        range("28 mixed's sheet", 0, 3, (x, v) -> x.mixed(0, v, 0, 0, 3, 0));
        range("28 mixed's lane", 0, 2, (x, v) -> x.mixed(0, 0, v, 0, 3, 0));
        range("28 mixed's n", 1, 21, (x, v) -> x.mixed(0, 0, 0, 0, v, 0));
        for (int n = -3; n <= 28; n++) {
            Due.due("29 sheet of " + n, fresh().sheet(0, 0, n), n < 0 ? -14 : n <= 24 ? n : -1);
        }
        Due.due("29 sheet of the least n", fresh().sheet(0, 0, MIN), -14);
        Due.due("29 sheet of the most n", fresh().sheet(0, 0, MAX), -1);
    }
}
