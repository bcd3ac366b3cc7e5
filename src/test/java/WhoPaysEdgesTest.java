/** Promises 12 to 17, and 2 to 7, at their edges. */
public final class WhoPaysEdgesTest {
    private static final int ALL_NINE = 0x1FF;

    private WhoPaysEdgesTest() {
    }

    public static void main(String[] args) {
        weightsToldAndAtFirst();
        guestsAsTheyCome();
        noughtsWriteAlways0();
        lawsToldAndAtFirst();
        countsAtTheirMost();
        nobody();
        oneAlone();
        likeOnes();
        likeOnesOnEitherSide();
        twoAreFirstByOff();
        middleByNumberOfGuests();
        middleOfLikeOnes();
        middleIsJudgedNoMore();
        sharesByNumberOfGuests();
        aSumOf0();
        fractions();
        meanByAllWeights();
        meanOfTheSupperIsCut();
        writing();
        noWeightAtAll();
        bestAtTheEnds();
        bestOfAnyKind();
        stillWithNoughts();
        stillByALesserMeanAlone();
        fortyTurns();
        turnsFrom0InEachCall();
        turnsByALesserMeanAlone();
        turnsUntilAllInARowKeepTheirs();
        Due.finish("WhoPaysEdgesTest");
    }

    private static FarthestPays alike(int n, int slip, int who, int ties) {
        String text = "";
        for (int g = 0; g < n; g++) {
            text += (g == 0 ? "s" : ";s") + slip;
        }
        return Due.at("10x1", text, who, ties);
    }

    private static void mean(String name, FarthestPays x, int guest, long top, long below) {
        Due.due(name + ", above", x.mean(guest, 0), top);
        Due.due(name + ", below", x.mean(guest, 1), below);
    }

    private static void pays(String name, FarthestPays x, int guest, int sum, int top, int below) {
        Due.due(name + ", above", x.pays(guest, sum, 0), top);
        Due.due(name + ", below", x.pays(guest, sum, 1), below);
    }

    /** "a WEIGHT (0 .. 99) for each SUM (0 at first; ..)"; "what it was" */
    private static void weightsToldAndAtFirst() {
        FarthestPays x = new FarthestPays();
        for (int sum = 0; sum <= 20; sum++) {
            Due.due("2 0 at first, " + sum, x.weight(sum, 99), 0);
            Due.due("2 what it was, " + sum, x.weight(sum, sum), 99);
            Due.due("2 not 100, " + sum, x.weight(sum, 100), -1);
            Due.due("2 not -1, " + sum, x.weight(sum, -1), -1);
        }
        for (int sum = 0; sum <= 20; sum++) {
            Due.due("2 each its own, " + sum, x.weight(sum, 0), sum);
        }
        Due.due("2 all are 0 again", x.count(1) + x.count(2), 0);
    }

    /** "GUESTS 0 .. 8, as they come, write a SLIP (a SUM; 0 at first)"; "FULL: 9" */
    private static void guestsAsTheyCome() {
        for (int kind = 0; kind <= 3; kind++) {
            FarthestPays x = new FarthestPays();
            for (int g = 0; g < 9; g++) {
                Due.due("3 not there yet, " + g, x.told(g, 0), -1);
                Due.due("3 his number, " + g, x.guest(kind), g);
                Due.due("3 his kind, " + g, x.told(g, 0), kind);
                Due.due("3 his slip, " + g, x.told(g, 1), 0);
                Due.due("3 as many, " + g, x.count(0), g + 1);
            }
            Due.due("3 a tenth", x.guest(kind), -3);
            Due.due("3 a tenth of no kind", x.guest(4), -1);
            Due.due("3 nine stay", x.count(0), 9);
        }
    }

    /** "2 NOUGHT (whose SLIP is always 0)"; "NOT: he is a NOUGHT, and it is not 0." */
    private static void noughtsWriteAlways0() {
        FarthestPays x = Due.at("20x1", "s20;n");
        x.guest(2);
        for (int g = 1; g <= 2; g++) {
            for (int sum = 0; sum <= 20; sum++) {
                Due.due("4 nought " + g + " writes " + sum, x.slip(g, sum), sum == 0 ? 0 : -2);
                Due.due("4 nought " + g + " wrote 0, " + sum, x.told(g, 1), 0);
            }
            Due.due("4 nought " + g + " and no sum", x.slip(g, 21), -1);
        }
        x.write(20);
        Due.due("5 noughts write 0", x.told(1, 1) + x.told(2, 1), 0);
        x.turns(40);
        Due.due("17 noughts keep 0", x.told(1, 1) + x.told(2, 1), 0);
        FarthestPays others = Due.at("", "s;f;k");
        for (int g = 0; g < 3; g++) {
            int was = 0;
            for (int sum = 20; sum >= 0; sum--) {
                Due.due("4 what it was, " + g + " " + sum, others.slip(g, sum), was);
                was = sum;
            }
        }
    }

    /** "LAWS: ..; 0 each at first"; "what it was" */
    private static void lawsToldAndAtFirst() {
        FarthestPays x = new FarthestPays();
        Due.due("7 who at first", x.rule(0, 3), 0);
        Due.due("7 ties at first", x.rule(1, 2), 0);
        Due.due("7 who 4", x.rule(0, 4), -1);
        Due.due("7 ties 3, which who may be", x.rule(1, 3), -1);
        Due.due("7 who -1", x.rule(0, -1), -1);
        Due.due("7 ties -1", x.rule(1, -1), -1);
        Due.due("7 who was 3", x.rule(0, 0), 3);
        Due.due("7 ties were 2", x.rule(1, 0), 2);
        Due.due("7 who was 0", x.rule(0, 0), 0);
        Due.due("7 ties were 0", x.rule(1, 0), 0);
        FarthestPays y = Due.at("", "s0;s5;s5", 0, 0);
        Due.due("7 the farthest at first", y.pay(4), 0b001);
        Due.due("7 the first of like ones at first", Due.at("", "s5;s0;s5").pay(0), 0b001);
    }

    /** "How many: 0 GUESTS, 1 SUMS of WEIGHT, 2 all WEIGHTS, 3 NIGHTS." */
    private static void countsAtTheirMost() {
        FarthestPays x = Due.at("", "s;s;s;s;s;s;s;s;s");
        for (int sum = 0; sum <= 20; sum++) {
            Due.due("11 sums before " + sum, x.count(1), sum);
            x.weight(sum, 99);
            Due.due("11 weights with " + sum, x.count(2), 99 * (sum + 1));
        }
        for (int i = 0; i < 12; i++) {
            x.night(20);
        }
        int[] most = {9, 21, 2079, 12};
        for (int what = 0; what < 4; what++) {
            Due.due("11 the most of " + what, x.count(what), most[what]);
        }
        Due.due("11 of 4", x.count(4), -1);
        Due.due("11 of -1", x.count(-1), -1);
        x.weight(7, 0);
        Due.due("11 a sum less", x.count(1), 20);
        x.weight(8, 1);
        Due.due("11 a sum of weight 1", x.count(1), 20);
        Due.due("11 all weights", x.count(2), 1882);
    }

    /** "NONE: there is nobody", by every law, for every SUM. */
    private static void nobody() {
        for (int who = 0; who <= 3; who++) {
            for (int ties = 0; ties <= 2; ties++) {
                FarthestPays x = Due.at("10x1", "", who, ties);
                for (int sum = 0; sum <= 20; sum++) {
                    Due.due("12 nobody, " + who + ties + ", " + sum, x.pay(sum), -4);
                }
                Due.due("16 nobody would change, " + who + ties, x.still(), 1);
                Due.due("17 nobody has a turn, " + who + ties, x.turns(40), 0);
                Due.due("5 nobody writes, " + who + ties, x.write(20), 0);
                Due.due("21 nobody pays, " + who + ties, x.choice(0x1FFFFF), 0);
            }
        }
    }

    /** "(one guest alone pays all)"; "alone he pays". */
    private static void oneAlone() {
        for (int who = 0; who <= 3; who++) {
            for (int ties = 0; ties <= 2; ties++) {
                for (int slip = 0; slip <= 20; slip += 5) {
                    FarthestPays x = alike(1, slip, who, ties);
                    String name = "one alone, " + who + ties + ", " + slip;
                    for (int sum = 0; sum <= 20; sum++) {
                        Due.due("12 " + name + ", for " + sum, x.pay(sum), 1);
                        pays("13 " + name + ", for " + sum, x, 0, sum, sum, 1);
                    }
                    mean("14 " + name, x, 0, 10, 1);
                    Due.due("15 " + name, x.best(0), 0);
                    Due.due("16 " + name, x.still(), 1);
                    Due.due("17 " + name, x.turns(40), 0);
                }
            }
        }
    }

    /** "Of those that are like (by 0, 1, 3): TIES 0 the first pays all, 2 the last, 1 each the like part." */
    private static void likeOnes() {
        for (int n = 2; n <= 9; n++) {
            int all = (1 << n) - 1;
            int last = 1 << n - 1;
            int[] slips = {0, 7, 20};
            for (int slip : slips) {
                String name = "12 " + n + " that wrote " + slip + ", ";
                for (int who = 0; who <= 1; who++) {
                    Due.due(name + who + ", the first", alike(n, slip, who, 0).pay(10), 1);
                    Due.due(name + who + ", each", alike(n, slip, who, 1).pay(10), all);
                    Due.due(name + who + ", the last", alike(n, slip, who, 2).pay(10), last);
                }
                Due.due(name + "two, the first", alike(n, slip, 2, 0).pay(10), 3);
                Due.due(name + "two, else the first", alike(n, slip, 2, 1).pay(10), 3);
                Due.due(name + "two, the last", alike(n, slip, 2, 2).pay(10), last | last >> 1);
                int free = 1 << (n - 1) / 2;
                Due.due(name + "but the middle, the first", alike(n, slip, 3, 0).pay(10), n == 2 ? 2 : 1);
                Due.due(name + "but the middle, each", alike(n, slip, 3, 1).pay(10), all & ~free);
                Due.due(name + "but the middle, the last", alike(n, slip, 3, 2).pay(10), last);
            }
        }
    }

    /** "OFF is how far a SLIP is from it": on either side. */
    private static void likeOnesOnEitherSide() {
        String guests = "s7;s13;s7;s10;s13";
        Due.due("12 either side, first", Due.at("", guests, 0, 0).pay(10), 0b00001);
        Due.due("12 either side, each", Due.at("", guests, 0, 1).pay(10), 0b10111);
        Due.due("12 either side, last", Due.at("", guests, 0, 2).pay(10), 0b10000);
        Due.due("12 off by 1 more", Due.at("", guests, 0, 1).pay(11), 0b00101);
        Due.due("12 off by 1 more, above", Due.at("", guests, 0, 1).pay(9), 0b10010);
        Due.due("12 nearest, either side", Due.at("", "s7;s13;s6;s14;s13", 1, 1).pay(10), 0b10011);
        Due.due("12 nearest, off by 0", Due.at("", guests, 1, 1).pay(10), 0b01000);
        Due.due("12 nearest, off by 1 less", Due.at("", guests, 1, 1).pay(12), 0b10010);
        Due.due("12 off by 20 at most", Due.at("", "s19;s20;s1", 0, 1).pay(0), 0b010);
        Due.due("12 off by 20 at most, from 20", Due.at("", "s1;s0;s19", 0, 1).pay(20), 0b010);
    }

    /** "those two that are first by OFF (the greatest first; of like ones by TIES 2 the last .. first, else the first)" */
    private static void twoAreFirstByOff() {
        // Off from 0 by 5, 9, 9, 9, 2: two of the three that are like.
        String three = "s5;s9;s9;s9;s2";
        Due.due("12 two of three like ones, 0", Due.at("", three, 2, 0).pay(0), 0b00110);
        Due.due("12 two of three like ones, 1", Due.at("", three, 2, 1).pay(0), 0b00110);
        Due.due("12 two of three like ones, 2", Due.at("", three, 2, 2).pay(0), 0b01100);
        // One is ahead of all, and of the next like ones one.
        String one = "s5;s9;s12;s9;s2";
        Due.due("12 one and one of like ones, 0", Due.at("", one, 2, 0).pay(0), 0b00110);
        Due.due("12 one and one of like ones, 1", Due.at("", one, 2, 1).pay(0), 0b00110);
        Due.due("12 one and one of like ones, 2", Due.at("", one, 2, 2).pay(0), 0b01100);
        // All unlike: whatever TIES say.
        for (int ties = 0; ties <= 2; ties++) {
            FarthestPays x = Due.at("", "s3;s1;s4;s2", 2, ties);
            Due.due("12 two unlike, " + ties, x.pay(0), 0b0101);
            Due.due("12 two unlike from above, " + ties, x.pay(20), 0b1010);
            pays("13 by halves, odd, " + ties, x, 1, 19, 19, 2);
            pays("13 by halves, even, " + ties, x, 1, 20, 10, 1);
            pays("13 not one of the two, " + ties, x, 0, 20, 0, 1);
            FarthestPays two = Due.at("", "s3;s1", 2, ties);
            for (int sum = 0; sum <= 20; sum++) {
                Due.due("12 two of two, " + ties + ", " + sum, two.pay(sum), 0b11);
            }
            pays("13 two of two, " + ties, two, 0, 7, 7, 2);
            pays("13 two of two, for 0, " + ties, two, 0, 0, 0, 1);
        }
    }

    /** "of SLIPS in order (..) the one at place (n - 1) by 2, cut" */
    private static void middleByNumberOfGuests() {
        // By numbers, but not by SLIPS, in order.
        int[] slips = {14, 3, 17, 1, 11, 20, 6, 9, 4};
        int[] middles = {0, 1, 0, 1, 4, 4, 4, 7, 7};
        String text = "";
        for (int n = 1; n <= 9; n++) {
            text += (n == 1 ? "s" : ";s") + slips[n - 1];
            for (int sum = 0; sum <= 20; sum++) {
                // The nearest and all others but he pay for one SUM or another: he is not among them.
                FarthestPays x = Due.at("", text, 3, 1);
                int set = x.pay(sum) >> middles[n - 1] & 1;
                Due.due("12 the middle one of " + n + " for " + sum, set, n == 1 ? 1 : 0);
            }
        }
        // So that he would pay, but for the law: he is the farthest of two, or as far as the other ones.
        Due.due("12 of two, 1 at 0 goes free", Due.at("", "s9;s0", 3, 0).pay(20), 0b01);
        Due.due("12 of two, 0 at 0 goes free", Due.at("", "s0;s9", 3, 0).pay(20), 0b10);
        Due.due("12 of three, 5 at 10", Due.at("", "s5;s15;s4", 3, 1).pay(10), 0b100);
        Due.due("12 of four the second", Due.at("", "s16;s4;s5;s15", 3, 1).pay(10), 0b0011);
        Due.due("12 of four the second, from 20", Due.at("", "s20;s4;s3;s19", 3, 1).pay(20), 0b0100);
        Due.due("12 of five the third", Due.at("", "s3;s3;s3;s17;s17", 3, 1).pay(10), 0b11011);
    }

    /** "(of like ones by numbers)" */
    private static void middleOfLikeOnes() {
        Due.due("12 5 5 9, of place 1", Due.at("", "s5;s9;s5", 3, 1).pay(9), 0b001);
        Due.due("12 5 9 9, of place 1", Due.at("", "s9;s5;s9", 3, 1).pay(3), 0b100);
        Due.due("12 5 5 9 9, of place 1", Due.at("", "s9;s5;s9;s5", 3, 1).pay(20), 0b0010);
        for (int ties = 0; ties <= 2; ties++) {
            // By numbers whatever TIES say.
            Due.due("12 of two like ones 0, " + ties, Due.at("", "s5;s5", 3, ties).pay(9), 0b10);
        }
    }

    /** "as 0, of all but the GUEST in the MIDDLE": with him they are not compared. */
    private static void middleIsJudgedNoMore() {
        // 0 is farthest from 20 of both, but goes free: the other one pays, though he is off by 0.
        FarthestPays x = Due.at("20x1", "s3;s20", 3, 0);
        pays("13 who goes free", x, 0, 20, 0, 1);
        pays("13 who is off by 0", x, 1, 20, 20, 1);
        // Off by 9, 9, 9 from 10: two share.
        FarthestPays y = Due.at("10x1", "s1;s1;s1", 3, 1);
        pays("13 the first of two like ones", y, 0, 10, 5, 1);
        pays("13 the middle one", y, 1, 10, 0, 1);
        pays("13 the last of two like ones", y, 2, 10, 5, 1);
        mean("14 the middle one", y, 1, 0, 1);
    }

    /** "PAYS of a GUEST for a SUM: that share of the SUM, a fraction." */
    private static void sharesByNumberOfGuests() {
        int[] below = {1, 1, 3, 1, 1, 3, 7, 2, 9};
        int[] top = {20, 10, 20, 5, 4, 10, 20, 5, 20};
        for (int n = 1; n <= 9; n++) {
            for (int who = 0; who <= 1; who++) {
                for (int g = 0; g < n; g++) {
                    pays("13 " + g + " of " + n, alike(n, 5, who, 1), g, 20, top[n - 1], below[n - 1]);
                }
            }
            if (n < 9) {
                int free = n / 2;
                FarthestPays x = alike(n + 1, 5, 3, 1);
                pays("13 of " + n + " but the middle", x, n, 20, top[n - 1], below[n - 1]);
                pays("13 the middle one, and " + n, x, free, 20, 0, 1);
            }
        }
    }

    /** "Who pays for a SUM (also of 0), as a set"; of 0 PAYS are 0 by 1. */
    private static void aSumOf0() {
        FarthestPays x = Due.at("0x3", "s5;s9;s0", 0, 0);
        Due.due("12 for 0, farthest", x.pay(0), 0b010);
        pays("13 for 0", x, 1, 0, 0, 1);
        pays("13 for 0, another", x, 2, 0, 0, 1);
        mean("14 for 0", x, 1, 0, 1);
        x.rule(0, 1);
        Due.due("12 for 0, nearest", x.pay(0), 0b100);
        x.rule(0, 2);
        Due.due("12 for 0, two", x.pay(0), 0b011);
        x.rule(0, 3);
        Due.due("12 for 0, but the middle", x.pay(0), 0b010);
        Due.due("15 for 0 all are like", x.best(1), 0);
        Due.due("16 for 0 all are like", x.still(), 1);
        Due.due("17 for 0 all are like", x.turns(40), 0);
        Due.due("18 for 0 all are like", x.league(0, 1, 2, 0) + x.league(0, 1, 2, 1), 0);
        Due.due("19 for 0 all are like", x.shun(0, 1, 2), 0);
        Due.due("20 for 0", x.host(1, 1), 0);
        Due.due("21 for 0", x.choice(1), 0);
    }

    /** "Fractions are in lowest terms, told above (part 0) and below (part 1; above 0)." */
    private static void fractions() {
        FarthestPays x = Due.at("", "s0;s0;s0;s0;s0;s0", 0, 1);
        int[] top = {0, 1, 1, 1, 2, 5, 1, 7, 4, 3, 5, 11, 2, 13, 7, 5, 8, 17, 3, 19, 10};
        int[] below = {1, 6, 3, 2, 3, 6, 1, 6, 3, 2, 3, 6, 1, 6, 3, 2, 3, 6, 1, 6, 3};
        for (int sum = 0; sum <= 20; sum++) {
            pays("13 a sixth of " + sum, x, 5, sum, top[sum], below[sum]);
        }
        // (20 by 9 times 97 and 19 by 9 times 89) by 186.
        FarthestPays y = Due.at("20x97,19x89", "s;s;s;s;s;s;s;s;s", 0, 1);
        mean("14 3631 by 1674", y, 0, 3631, 1674);
        // (7 by 7 times 98 and 14 by 7 times 49) by 147: 4 by 3.
        FarthestPays z = Due.at("7x98,14x49", "s;s;s;s;s;s;s", 0, 1);
        mean("14 4 by 3", z, 6, 4, 3);
    }

    /** "his PAYS for each SUM times its WEIGHT, together, by all WEIGHTS, all SLIPS as they are" */
    private static void meanByAllWeights() {
        // Pays for 20 alone; the WEIGHT of 0 counts, too.
        FarthestPays x = Due.at("0x1,20x1", "s0;s20", 0, 0);
        mean("14 half of 20", x, 0, 10, 1);
        mean("14 nothing", x, 1, 0, 1);
        x.weight(0, 99);
        mean("14 a hundredth of 20", x, 0, 1, 5);
        // A FOOL, a KNOWING one are asked by their SLIPS as they are.
        FarthestPays y = Due.at("10x1,20x1", "f0;k5;s10", 0, 0);
        mean("14 a fool", y, 0, 15, 1);
        mean("14 a knowing one", y, 1, 0, 1);
        Due.due("14 slips stay", y.told(0, 1) * 10 + y.told(1, 1), 5);
        FarthestPays most = new FarthestPays();
        for (int sum = 0; sum <= 20; sum++) {
            most.weight(sum, 99);
        }
        for (int g = 0; g < 9; g++) {
            most.guest(0);
        }
        mean("14 all the most, the first", most, 0, 10, 1);
        mean("14 all the most, the last", most, 8, 0, 1);
        most.rule(1, 1);
        mean("14 all the most, each", most, 8, 10, 9);
        most.weight(20, 98);
        // 20770 by 2078 by 9: in lowest terms.
        mean("14 nearly all the most, each", most, 8, 10385, 9351);
    }

    /** "(MEAN of THE SUPPER: its SUMS times their WEIGHTS, together, by all WEIGHTS, cut.)" */
    private static void meanOfTheSupperIsCut() {
        foolWrites("0x1", 0);
        foolWrites("20x99", 20);
        foolWrites("0x1,1x98", 0);
        foolWrites("19x1,20x98", 19);
        foolWrites("19x99,20x99", 19);
        foolWrites("3x1,4x1", 3);
        foolWrites("3x1,5x1", 4);
        foolWrites("0x2,20x1", 6);
        foolWrites("0x1,20x2", 13);
        foolWrites("9x2,10x1,19x1", 11);
    }

    private static void foolWrites(String supper, int mean) {
        FarthestPays x = Due.at(supper, "s7;f8");
        x.write(3);
        Due.due("5 a fool's mean of " + supper, x.told(1, 1), mean);
        Due.due("5 a shrewd one's slip by " + supper, x.told(0, 1), 7);
    }

    /** "a FOOL the MEAN .., a KNOWING one the SUM, a NOUGHT 0, a SHREWD one as it is: how many SLIPS change" */
    private static void writing() {
        for (int sum = 0; sum <= 20; sum++) {
            FarthestPays x = Due.at("10x1", "s4;f4;n;k4;s20;f10;k20");
            Due.due("5 how many change for " + sum, x.write(sum), 1 + (sum == 4 ? 0 : 1) + (sum == 20 ? 0 : 1));
            int[] slips = {4, 10, 0, sum, 20, 10, sum};
            for (int g = 0; g < 7; g++) {
                Due.due("5 " + g + " writes for " + sum, x.told(g, 1), slips[g]);
            }
            Due.due("5 none change again for " + sum, x.write(sum), 0);
        }
        FarthestPays nine = Due.at("10x1", "k;k;k;k;k;k;k;k;k");
        Due.due("5 nine change", nine.write(20), 9);
        Due.due("5 noughts alone", Due.at("10x1", "n;n").write(20), 0);
    }

    /** "one at least must be above 0 where it is asked" */
    private static void noWeightAtAll() {
        FarthestPays x = Due.at("10x1,0x1", "s1;s2;s3");
        x.weight(10, 0);
        // The SUM 0 may be the only one.
        Due.due("5 weight of 0 alone", x.write(5), 0);
        mean("14 weight of 0 alone", x, 0, 0, 1);
        Due.due("15 weight of 0 alone", x.best(2), 0);
        Due.due("16 weight of 0 alone", x.still(), 1);
        Due.due("17 weight of 0 alone", x.turns(1), 0);
        Due.due("18 weight of 0 alone", x.league(0, 1, 2, 1), 0);
        Due.due("19 weight of 0 alone", x.shun(0, 1, 2), 0);
        x.sheet(0, 0, 1);
        x.item(0, 0, 0, 1);
        Due.due("28 weight of 0 alone", x.mixed(0, 0, 0, 0, 1, 1), 1);
        Due.due("2 its last weight", x.weight(0, 0), 1);
        Due.due("5 no weight any more", x.write(5), -2);
        Due.due("14 no weight any more", x.mean(0, 1), -2);
        Due.due("15 no weight any more", x.best(2), -2);
        Due.due("16 no weight any more", x.still(), -2);
        Due.due("17 no weight any more", x.turns(1), -2);
        Due.due("18 no weight any more", x.league(0, 1, 2, 1), -2);
        Due.due("19 no weight any more", x.shun(0, 1, 2), -2);
        Due.due("28 no weight any more", x.mixed(0, 0, 0, 0, 1, 1), -2);
        // These ask no SUPPER.
        Due.due("12 no supper asked", x.pay(20), 1);
        Due.due("13 no supper asked", x.pays(0, 20, 0), 20);
        Due.due("20 no supper asked", x.host(0x1FFFFF, 0), 20);
        Due.due("21 no supper asked", x.choice(0x1FFFFF), 2);
        Due.due("22 no supper asked", x.night(20), 0);
        x.weight(20, 1);
        Due.due("14 weight of 20 alone", x.mean(0, 0), 20);
    }

    /** "BEST: the SLIP of a GUEST (0 .. 20, ..) by which his MEAN is least, .. of like ones the least SLIP." */
    private static void bestAtTheEnds() {
        Due.due("15 20", Due.at("20x1", "s20;s3").best(1), 20);
        Due.due("15 19", Due.at("20x1", "s19;s3").best(1), 19);
        Due.due("15 0", Due.at("0x1,1x1", "s0;s9").best(1), 0);
        Due.due("15 1", Due.at("1x1", "s1;s9").best(1), 1);
        // The first of like ones pays: 1 must be farther than the other one, whom only 20 is.
        Due.due("15 20 as the farthest", Due.at("1x1", "s19;s5", 1, 2).best(1), 20);
        // He is the first of like ones, so he pays if he writes 20, and if he does not.
        Due.due("15 no slip helps", Due.at("20x1", "s20;s20").best(0), 0);
        // The last of like ones pays as the nearest: he would have to be farther from 1 than 20 is, and no SLIP is.
        Due.due("15 no slip is above 20", Due.at("1x1", "s20;s5", 1, 2).best(1), 0);
        // Off as far on either side: 3 and 17, 4 and 16; of like ones the least SLIP.
        Due.due("15 the least of like ones", Due.at("10x1", "s3;s17").best(1), 3);
        Due.due("15 the least of like ones, first by numbers", Due.at("10x1", "s3;s17").best(0), 4);
        // By 8 .. 10 he does not pay for 9, by 10 .. 12 not for 11.
        Due.due("15 between two sums", Due.at("9x1,11x1", "s10;s0", 0, 0).best(1), 10);
    }

    /** "(.., of whatever KIND he is), all others as they are" */
    private static void bestOfAnyKind() {
        String[] kinds = {"s", "f", "n", "k"};
        for (String kind : kinds) {
            FarthestPays x = Due.at("10x1", "s6;" + kind);
            Due.due("15 of " + kind, x.best(1), 6);
            Due.due("15 of " + kind + ", his slip stays", x.told(1, 1), 0);
            // The other one would write otherwise by himself, but is taken as he is.
            FarthestPays y = Due.at("10x1", (kind.equals("n") ? kind : kind + "6") + ";s");
            Due.due("15 against " + kind, y.best(1), kind.equals("n") ? 0 : 6);
        }
    }

    /** "STILL: whether, of each GUEST but NOUGHTS, no other SLIP has a lesser MEAN for him." */
    private static void stillWithNoughts() {
        Due.due("16 a nought alone with noughts", Due.at("10x1", "n;n;n").still(), 1);
        Due.due("16 a shrewd one in his place", Due.at("10x1", "s0;n;n").still(), 0);
        Due.due("16 a fool in his place", Due.at("10x1", "f0;n;n").still(), 0);
        Due.due("16 a knowing one in his place", Due.at("10x1", "k0;n;n").still(), 0);
        Due.due("16 the last one, too", Due.at("10x1", "s10;s10;s9", 0, 1).still(), 0);
        Due.due("16 noughts alone", Due.at("20x1", "n;n;n;n;n;n;n;n;n", 0, 1).still(), 1);
    }

    private static void stillByALesserMeanAlone() {
        // 1 pays nothing by any SLIP, as the nought is farther, or the first of like ones.
        Due.due("16 another as good", Due.at("10x1", "n;s10", 0, 0).still(), 1);
        Due.due("16 the only one better is 20", Due.at("20x1", "s20;s19", 0, 0).still(), 0);
        // The nearest pays, and of like ones he does: 0 is the only one that is farther from 20 than 1.
        Due.due("16 the only one better is 0", Due.at("20x1", "s1;s19", 1, 2).still(), 0);
    }

    /**
     * "n (1 .. 40)": 0 pays for 9 and 10 where both wrote the same, so he writes another one, and 1 follows him:
     * every TURN changes a SLIP.
     */
    private static void fortyTurns() {
        for (int n = 1; n <= 40; n++) {
            FarthestPays x = Due.at("9x1,10x1", "s10;s10");
            Due.due("17 endless, " + n, x.turns(n), n);
            // The TURNS of 0 are one more than those of 1, or as many.
            Due.due("17 endless, " + n + ", 0", x.told(0, 1), (n + 1) / 2 % 2 == 0 ? 10 : 9);
            Due.due("17 endless, " + n + ", 1", x.told(1, 1), n / 2 % 2 == 0 ? 10 : 9);
            Due.due("17 endless, " + n + ", still", x.still(), 0);
        }
        FarthestPays x = Due.at("9x1,10x1", "s10;s10");
        Due.due("17 41 are too many", x.turns(41), -1);
        Due.due("17 none are too few", x.turns(0), -1);
        Due.due("17 neither changes a slip", x.told(0, 1) * 100 + x.told(1, 1), 1010);
    }

    /** "(round, from 0 on in each call; each has a TURN)" */
    private static void turnsFrom0InEachCall() {
        FarthestPays x = Due.at("9x1,10x1", "s10;s10");
        Due.due("17 0 has the turn", x.turns(1), 1);
        Due.due("17 0 again", x.turns(1), 0);
        Due.due("17 and again", x.turns(1), 0);
        Due.due("17 1 behind him", x.turns(2), 1);
        Due.due("17 1 has written", x.told(1, 1), 9);
        // NOUGHTS have TURNS, and keep theirs.
        FarthestPays z = Due.at("10x1", "n;n;n;n;n;n;n;n;s0", 0, 2);
        Due.due("17 eight turns of noughts", z.turns(8), 0);
        Due.due("17 the ninth turn", z.turns(9), 1);
        Due.due("17 his slip", z.told(8, 1), 1);
        Due.due("17 the eighteenth turn", z.turns(18), 0);
    }

    /** "writes his BEST, if its MEAN is less than that by his SLIP" */
    private static void turnsByALesserMeanAlone() {
        // 1 pays nothing by 15, as by 0 .. 15: he keeps his, though his BEST is a lesser SLIP.
        FarthestPays x = Due.at("20x1", "n;s15", 0, 0);
        Due.due("17 his best", x.best(1), 0);
        Due.due("17 a like mean changes nothing", x.turns(40), 0);
        Due.due("17 he keeps his", x.told(1, 1), 15);
        FarthestPays y = Due.at("20x1", "n;s15", 1, 0);
        Due.due("17 a lesser mean", y.turns(40), 1);
        Due.due("17 his best then", y.told(1, 1), 0);
    }

    /** "or until as many as there are GUESTS in a row keep theirs" */
    private static void turnsUntilAllInARowKeepTheirs() {
        // 0 and 1 keep theirs, 2 writes 8, 0 writes 9, 1 keeps his, 2 writes 9, and so on: nine keep theirs in all.
        FarthestPays x = Due.at("10x1", "s8;s9;s0");
        Due.due("17 not in a row", x.turns(40), 6);
        Due.due("17 all wrote 10 then", x.told(0, 1) * 441 + x.told(1, 1) * 21 + x.told(2, 1), 4630);
        Due.due("17 all keep theirs", x.still(), 1);
        // 2, a NOUGHT, keeps his each time, and 0 his first one; all other TURNS change a SLIP, up to 3, down to 0.
        for (int n = 1; n <= 40; n++) {
            FarthestPays y = Due.at("1x1,20x1", "s0;s1;n", 1, 0);
            Due.due("17 never three in a row, " + n, y.turns(n), (n + 2) / 3 - 1 + (n + 1) / 3);
        }
    }
}
