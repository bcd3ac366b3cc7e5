/** Promises 12 to 17. */
public final class WhoPaysTest {
    private WhoPaysTest() {
    }

    public static void main(String[] args) {
        payFarthest();
        payNearest();
        payTwo();
        payMiddleFree();
        payRefused();
        pays();
        mean();
        best();
        still();
        turns();
        turnsInARow();
        turnsWithNoughts();
        Due.finish("WhoPaysTest");
    }

    private static void payFarthest() {
        String guests = "s0;s20;s10;s0";
        Due.due("12 farthest", Due.at("", guests, 0, 0).pay(4), 0b0010);
        Due.due("12 farthest, first", Due.at("", guests, 0, 0).pay(15), 0b0001);
        Due.due("12 farthest, all", Due.at("", guests, 0, 1).pay(15), 0b1001);
        Due.due("12 farthest, last", Due.at("", guests, 0, 2).pay(15), 0b1000);
        Due.due("12 all on either side", Due.at("", guests, 0, 1).pay(10), 0b1011);
        Due.due("12 a sum of 0", Due.at("", guests, 0, 0).pay(0), 0b0010);
    }

    private static void payNearest() {
        String guests = "s0;s20;s10;s0";
        Due.due("12 nearest", Due.at("", guests, 1, 0).pay(12), 0b0100);
        Due.due("12 nearest, first", Due.at("", guests, 1, 0).pay(2), 0b0001);
        Due.due("12 nearest, all", Due.at("", guests, 1, 1).pay(2), 0b1001);
        Due.due("12 nearest, last", Due.at("", guests, 1, 2).pay(2), 0b1000);
        Due.due("12 nearest of two sides", Due.at("", guests, 1, 1).pay(15), 0b0110);
    }

    private static void payTwo() {
        String guests = "s0;s20;s10;s0";
        Due.due("12 two", Due.at("", guests, 2, 0).pay(4), 0b0110);
        Due.due("12 two, first of like ones", Due.at("", "s5;s9;s5;s5", 2, 0).pay(9), 0b0101);
        Due.due("12 two, ties 1 as 0", Due.at("", "s5;s9;s5;s5", 2, 1).pay(9), 0b0101);
        Due.due("12 two, last of like ones", Due.at("", "s5;s9;s5;s5", 2, 2).pay(9), 0b1100);
        Due.due("12 two, one ahead and first", Due.at("", guests, 2, 0).pay(9), 0b0011);
        Due.due("12 two, one ahead and last", Due.at("", guests, 2, 2).pay(9), 0b1010);
        Due.due("12 two of two", Due.at("", "s5;s9", 2, 0).pay(9), 0b11);
        Due.due("12 two, alone", Due.at("", "s5", 2, 0).pay(5), 0b1);
    }

    private static void payMiddleFree() {
        Due.due("12 middle goes free", Due.at("", "s0;s7;s20", 3, 0).pay(20), 0b001);
        Due.due("12 middle is farthest", Due.at("", "s9;s8;s10", 3, 0).pay(1), 0b100);
        Due.due("12 of four the second", Due.at("", "s6;s4;s2;s8", 3, 0).pay(20), 0b0100);
        Due.due("12 of two the lower", Due.at("", "s9;s3", 3, 0).pay(9), 0b01);
        Due.due("12 of two like ones the first", Due.at("", "s3;s3", 3, 0).pay(9), 0b10);
        Due.due("12 of three like ones", Due.at("", "s3;s3;s3", 3, 1).pay(9), 0b101);
        Due.due("12 of three like ones, last", Due.at("", "s3;s3;s3", 3, 2).pay(9), 0b100);
        Due.due("12 of three like ones, first", Due.at("", "s3;s3;s3", 3, 0).pay(9), 0b001);
        Due.due("12 alone he pays", Due.at("", "s3", 3, 0).pay(3), 0b1);
    }

    private static void payRefused() {
        FarthestPays x = new FarthestPays();
        Due.due("12 nobody", x.pay(0), -4);
        Due.due("12 BAD ahead of NONE", x.pay(21), -1);
        x.guest(0);
        Due.due("12 below", x.pay(-1), -1);
        Due.due("12 above", x.pay(21), -1);
        Due.due("12 last sum", x.pay(20), 1);
    }

    private static void pays() {
        FarthestPays x = Due.at("", "s0;s0;s0;s9", 0, 1);
        fraction("13 third", x, 1, 10, 10, 3);
        fraction("13 third, whole", x, 1, 12, 4, 1);
        fraction("13 nothing", x, 3, 10, 0, 1);
        fraction("13 a sum of 0", x, 3, 0, 0, 1);
        x.rule(0, 2);
        fraction("13 half", x, 0, 7, 7, 2);
        fraction("13 not half", x, 2, 7, 0, 1);
        FarthestPays nine = Due.at("", "s;s;s;s;s;s;s;s;s", 0, 1);
        fraction("13 ninth", nine, 8, 20, 20, 9);
        fraction("13 seventh", Due.at("", "s;s;s;s;s;s;s", 1, 1), 6, 20, 20, 7);
        fraction("13 eighth", Due.at("", "s;s;s;s;s;s;s;s;s", 3, 1), 0, 20, 5, 2);
        fraction("13 two, alone", Due.at("", "s5", 2, 0), 0, 5, 5, 1);
        Due.due("13 guest above", x.pays(4, 1, 0), -1);
        Due.due("13 guest below", x.pays(-1, 1, 0), -1);
        Due.due("13 sum above", x.pays(0, 21, 0), -1);
        Due.due("13 sum below", x.pays(0, -1, 0), -1);
        Due.due("13 part above", x.pays(0, 1, 2), -1);
        Due.due("13 part below", x.pays(0, 1, -1), -1);
        Due.due("13 nobody", new FarthestPays().pays(0, 1, 0), -1);
    }

    private static void fraction(String name, FarthestPays x, int guest, int sum, int top, int below) {
        Due.due(name + ", above", x.pays(guest, sum, 0), top);
        Due.due(name + ", below", x.pays(guest, sum, 1), below);
    }

    private static void mean() {
        FarthestPays x = Due.at("6x2,10x1", "s6;s9;s9", 0, 1);
        // For 6 the two that wrote 9 pay 3 each, for 10 the one that wrote 6 pays all.
        Due.due("14 10 by 3, above", x.mean(0, 0), 10);
        Due.due("14 10 by 3, below", x.mean(0, 1), 3);
        Due.due("14 6 by 3, above", x.mean(1, 0), 2);
        Due.due("14 6 by 3, below", x.mean(1, 1), 1);
        FarthestPays zero = Due.at("0x5", "s0", 0, 0);
        Due.due("14 0 above", zero.mean(0, 0), 0);
        Due.due("14 0 below", zero.mean(0, 1), 1);
        FarthestPays none = Due.at("", "s", 0, 0);
        Due.due("14 no weight", none.mean(0, 0), -2);
        Due.due("14 BAD ahead of NOT, part", none.mean(0, 2), -1);
        Due.due("14 BAD ahead of NOT, guest", none.mean(1, 0), -1);
        Due.due("14 guest below", x.mean(-1, 0), -1);
        Due.due("14 part below", x.mean(0, -1), -1);
        FarthestPays most = new FarthestPays();
        most.guest(0);
        for (int sum = 0; sum <= 20; sum++) {
            most.weight(sum, 99);
        }
        Due.due("14 all the most, above", most.mean(0, 0), 10);
        Due.due("14 all the most, below", most.mean(0, 1), 1);
    }

    private static void best() {
        Due.due("15 least of like ones", Due.at("10x1", "s0;s5").best(0), 6);
        Due.due("15 first in a tie pays", Due.at("10x1", "s0;s5").best(1), 0);
        Due.due("15 first by numbers", Due.at("10x1", "s5;s5").best(1), 5);
        Due.due("15 nearest", Due.at("10x1", "s5;s5", 1, 0).best(0), 0);
        Due.due("15 no slip above 20", Due.at("10x1", "s5;s20", 1, 0).best(0), 0);
        Due.due("15 of a nought", Due.at("10x1", "s5;n").best(1), 5);
        Due.due("15 all alike", Due.at("10x1", "s5").best(0), 0);
        FarthestPays x = Due.at("", "s5;s");
        Due.due("15 no weight", x.best(0), -2);
        Due.due("15 BAD ahead of NOT", x.best(2), -1);
        Due.due("15 below", x.best(-1), -1);
        Due.supper(x, "10x1");
        x.best(1);
        Due.due("15 slips stay", x.told(1, 1), 0);
    }

    private static void still() {
        Due.due("16 one would change", Due.at("10x1", "s10;s9").still(), 0);
        Due.due("16 nobody would", Due.at("10x1", "s10;s10", 0, 1).still(), 1);
        Due.due("16 another slip as good", Due.at("10x1", "s11;s0;n", 0, 0).still(), 0);
        Due.due("16 the first one would change", Due.at("10x1", "s0;s9").still(), 0);
        Due.due("16 noughts are not asked", Due.at("10x1", "s10;n", 0, 0).still(), 1);
        Due.due("16 fools are asked", Due.at("10x1", "s10;f9", 0, 0).still(), 0);
        Due.due("16 nobody there", Due.at("10x1", "").still(), 1);
        Due.due("16 no weight", Due.at("", "s5").still(), -2);
        Due.due("16 a sum of 0 alone", Due.at("0x1", "s5;s9").still(), 1);
    }

    private static void turns() {
        FarthestPays x = Due.at("10x1", "s0;s5");
        // 0 pays all, so he writes 6, off by 4: less than the other one.
        Due.due("17 one turn", x.turns(1), 1);
        Due.due("17 his best", x.told(0, 1), 6);
        Due.due("17 from 0 on in each call", x.turns(1), 0);
        // 1 writes 6: off as far as the first, who pays then.
        Due.due("17 two turns", x.turns(2), 1);
        Due.due("17 the other's best", x.told(1, 1), 6);
        // By 1 in turn, up to 10: more is not needed than to be as near as the other one, or nearer.
        Due.due("17 on", x.turns(40), 8);
        Due.due("17 at last, 0", x.told(0, 1), 10);
        Due.due("17 at last, 1", x.told(1, 1), 10);
        Due.due("17 at rest", x.turns(40), 0);
        Due.due("17 below", x.turns(0), -1);
        Due.due("17 above", x.turns(41), -1);
        Due.due("17 nobody", Due.at("10x1", "").turns(40), 0);
        FarthestPays none = Due.at("", "s");
        Due.due("17 no weight", none.turns(1), -2);
        Due.due("17 BAD ahead of NOT", none.turns(0), -1);
        Due.due("17 BAD ahead of NOT, above", none.turns(41), -1);
    }

    private static void turnsInARow() {
        FarthestPays x = Due.at("10x1", "s8;s9;s0");
        // 0 and 1 keep theirs, 2 writes 8, as 0 pays for like ones; 0 writes 9 then, 1 keeps his, 2 writes 9, ...
        Due.due("17 the third turn", x.turns(3), 1);
        Due.due("17 its slip", x.told(2, 1), 8);
        FarthestPays y = Due.at("10x1", "s8;s9;s0");
        Due.due("17 in a row", y.turns(40), 6);
        for (int g = 0; g < 3; g++) {
            Due.due("17 in a row, " + g, y.told(g, 1), 10);
        }
        FarthestPays z = Due.at("10x1", "s0;s5");
        Due.due("17 the first one's second turn", z.turns(3), 3);
        Due.due("17 0 has written twice", z.told(0, 1), 7);
        Due.due("17 1 has written once", z.told(1, 1), 6);
    }

    private static void turnsWithNoughts() {
        FarthestPays x = Due.at("20x1", "n;s19;s18", 0, 1);
        Due.due("17 noughts keep theirs", x.turns(40), 0);
        FarthestPays y = Due.at("20x1", "n;n;s18", 1, 0);
        // The nearest pays: the third one's turn comes behind those of two noughts.
        Due.due("17 noughts have turns", y.turns(2), 0);
        Due.due("17 the third turn", y.turns(3), 1);
        Due.due("17 his slip", y.told(2, 1), 0);
        Due.due("17 noughts' slips", y.told(0, 1) + y.told(1, 1), 0);
    }
}
