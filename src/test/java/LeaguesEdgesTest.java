/** Promises 18 to 27 at their edges. */
public final class LeaguesEdgesTest {
    private static final int ALL = 0x1FFFFF;

    private LeaguesEdgesTest() {
    }

    public static void main(String[] args) {
        leagueAtTheEnds();
        leagueFirstOfLikeOnes();
        leagueOfAnyKinds();
        leagueAgainstHisSlip();
        shunAtTheEnds();
        shunLeastOfLikeOnes();
        shunOfAnyKinds();
        hostOfOneSum();
        hostLeastOfLikeOnes();
        choiceAbove0();
        choiceOfAllNine();
        twelveNights();
        nightsOfThen();
        knewNoneWithoutNights();
        knewInEachOfTwelve();
        knewOfThoseWhoWereThere();
        leaguesNoneWithoutNights();
        leaguesBelowAndAbove();
        leaguesInEachNight();
        leaguesOfThoseWhoPay();
        leaguesForASumOf0();
        leaguesHowManyAndTheFirst();
        leaguesOfThoseWhoWereThere();
        forgetting();
        noImageYet();
        imageOfANewObject();
        imageOfAll();
        imageWithoutSheetsAndTape();
        Due.finish("LeaguesEdgesTest");
    }

    private static void league(String name, FarthestPays x, int a, int b, int c, int ofA, int ofB) {
        Due.due(name + ", a's", x.league(a, b, c, 0), ofA);
        Due.due(name + ", b's", x.league(a, b, c, 1), ofB);
    }

    /** "the pair of SLIPS (a's, then b's; ..) by which c's MEAN is most": 0 and 20 are SLIPS, too. */
    private static void leagueAtTheEnds() {
        // c, the first of like ones, pays if neither is farther than he is.
        league("18 both 20", Due.at("20x1", "s20;s5;s5"), 1, 2, 0, 20, 20);
        league("18 both 0", Due.at("0x1,1x1", "s;s5;s5"), 1, 2, 0, 0, 0);
        league("18 both 19", Due.at("20x1", "s19;s5;s5"), 1, 2, 0, 19, 19);
        // The nearest pays, and of like ones the last, who is c: both must be farther, or as far: 0 is, 20 is, too.
        league("18 far from 20", Due.at("20x1", "s5;s5;s1", 1, 2), 0, 1, 2, 0, 0);
        league("18 far from 1", Due.at("1x1", "s5;s5;s20", 1, 0), 0, 1, 2, 0, 0);
        // Two pay by halves: a is one of them, wherever he is, and c if b is not farther.
        // a would have to be farther from 10 than c, who wrote 0, and no SLIP is.
        league("18 no slip is above 20", Due.at("10x1", "s5;s0;s5", 1, 0), 0, 2, 1, 0, 0);
        league("18 by halves", Due.at("20x1", "s5;s5;s20", 2, 0), 0, 1, 2, 0, 0);
        league("18 by halves, the last of like ones", Due.at("20x1", "s5;s5;s20", 2, 2), 0, 1, 2, 0, 20);
        league("18 by halves, b's below c's", Due.at("20x1", "s5;s5;s19", 2, 2), 0, 1, 2, 0, 19);
    }

    /** "of like ones the first" */
    private static void leagueFirstOfLikeOnes() {
        // c pays whatever they write, or never.
        league("18 never", Due.at("20x1", "s0;s5;s5;s20"), 1, 2, 3, 0, 0);
        league("18 for nothing", Due.at("0x1", "s0;s5;s5"), 1, 2, 0, 0, 0);
        // c pays for 10 by any pair within 5 .. 15.
        league("18 the first of many", Due.at("10x1", "s5;s;s"), 1, 2, 0, 5, 5);
        league("18 the first of many, c the last", Due.at("10x1", "s;s;s5", 0, 2), 0, 1, 2, 5, 5);
        league("18 the first of many, c strictly", Due.at("10x1", "s;s;s5", 0, 0), 0, 1, 2, 6, 6);
        // By numbers c is between: the first one must be nearer, the last one may be as near.
        league("18 c between", Due.at("10x1", "s;s5;s", 0, 0), 0, 2, 1, 6, 5);
        league("18 c between, b and a", Due.at("10x1", "s;s5;s", 0, 0), 2, 0, 1, 5, 6);
        league("18 c between, ties to the last", Due.at("10x1", "s;s5;s", 0, 2), 0, 2, 1, 5, 6);
    }

    /** "(three unlike GUESTS, of whatever KINDS they are; ..)" */
    private static void leagueOfAnyKinds() {
        String[] kinds = {"s5", "f5", "n", "k5"};
        for (String a : kinds) {
            for (String b : kinds) {
                FarthestPays x = Due.at("10x1", "s10;" + a + ";" + b);
                int before = x.told(1, 1) * 21 + x.told(2, 1);
                league("18 of " + a + " and " + b, x, 1, 2, 0, 10, 10);
                Due.due("18 slips stay, " + a + " and " + b, x.told(1, 1) * 21 + x.told(2, 1), before);
            }
            FarthestPays y = Due.at("10x1", a + ";s;s");
            int his = y.told(0, 1);
            league("18 against " + a, y, 1, 2, 0, his, his);
            Due.due("18 his slip stays, " + a, y.told(0, 1), his);
        }
    }

    /** "c's MEAN": by his SLIP as it is, and those of others. */
    private static void leagueAgainstHisSlip() {
        for (int his = 0; his <= 10; his++) {
            league("18 his is " + his, Due.at("10x1", "s" + his + ";s;s"), 1, 2, 0, his, his);
            int above = 20 - his;
            league("18 his is " + above, Due.at("10x1", "s" + above + ";s;s"), 1, 2, 0, his, his);
        }
        // 3, who is farther than c, pays whatever they write.
        league("18 another is farther", Due.at("10x1", "s9;s5;s5;s8"), 1, 2, 0, 0, 0);
        // For 9 c pays if both are within 2 of it, for 12 if within 1: for both by 11 alone.
        league("18 two sums", Due.at("9x1,12x1", "s11;s;s"), 1, 2, 0, 11, 11);
    }

    /** "SHUN: the SLIP of c by which his MEAN, by the pair that is LEAGUE against it, is least" */
    private static void shunAtTheEnds() {
        // c is the last of like ones, and pays for 20 only if he is farther than both: never, if he writes 20.
        Due.due("19 20", Due.at("20x1", "s;s;s").shun(0, 1, 2), 20);
        Due.due("19 19", Due.at("19x1", "s;s;s").shun(0, 1, 2), 19);
        Due.due("19 0", Due.at("0x1,1x1", "s;s;s9").shun(0, 1, 2), 1);
        // The nearest pays, of like ones the first: c is safe as far away as the other ones can be.
        Due.due("19 20 from 1", Due.at("1x1", "s;s;s", 1, 0).shun(0, 1, 2), 20);
        Due.due("19 0 from 20", Due.at("20x1", "s;s;s9", 1, 0).shun(0, 1, 2), 0);
        // Of like ones the last pays: c would have to be farther than they are, and no SLIP is.
        Due.due("19 no slip is above 20", Due.at("10x1", "s;s;s9", 1, 2).shun(0, 1, 2), 0);
        Due.due("19 0 from 10", Due.at("10x1", "s;s;s9", 1, 0).shun(0, 1, 2), 0);
    }

    /** "of like ones the least SLIP" */
    private static void shunLeastOfLikeOnes() {
        Due.due("19 nothing helps", Due.at("20x1", "s9;s;s").shun(1, 2, 0), 0);
        Due.due("19 nothing helps, the last", Due.at("20x1", "s;s;s9", 0, 2).shun(0, 1, 2), 0);
        Due.due("19 for nothing", Due.at("0x9", "s;s;s9").shun(0, 1, 2), 0);
        // 3 is farther than c by 8 .. 12 from 10: he pays then.
        Due.due("19 as good as another one", Due.at("10x1", "s;s;s0;s7").shun(0, 1, 2), 8);
        Due.due("19 as good as another one, ahead", Due.at("10x1", "s7;s;s;s0").shun(1, 2, 3), 7);
        // By 9 the pair makes him pay for 11, by 11 for 9, by 10 for either, never for both.
        Due.due("19 the dearer sum", Due.at("9x1,11x1", "s;s;s").shun(0, 1, 2), 11);
        Due.due("19 the weightier sum", Due.at("9x2,11x1", "s;s;s").shun(0, 1, 2), 9);
        // 3 x 4 and 4 x 3 are like.
        Due.due("19 like sums", Due.at("3x4,4x3", "s;s;s").shun(0, 1, 2), 3);
    }

    private static void shunOfAnyKinds() {
        String[] kinds = {"s5", "f5", "n", "k5"};
        for (String c : kinds) {
            FarthestPays x = Due.at("10x1", "n;k1;" + c);
            int before = x.told(2, 1);
            Due.due("19 of " + c, x.shun(0, 1, 2), 10);
            Due.due("19 of " + c + ", b and a", x.shun(1, 0, 2), 10);
            Due.due("19 slips stay, " + c, x.told(0, 1) * 441 + x.told(1, 1) * 21 + x.told(2, 1), 21 + before);
        }
    }

    /** "orders .. a SUM of a set of SUMS (bits 0 .. 20)": of one SUM that, whoever pays. */
    private static void hostOfOneSum() {
        FarthestPays x = Due.at("", "s0;s10;s20", 0, 0);
        for (int sum = 0; sum <= 20; sum++) {
            for (int g = 0; g < 3; g++) {
                Due.due("20 of " + sum + " alone, for " + g, x.host(1 << sum, g), sum);
            }
        }
        Due.due("20 of 0 and 20, the first", x.host(1 | 1 << 20, 0), 20);
        Due.due("20 of 0 and 20, the last", x.host(1 | 1 << 20, 2), 0);
        Due.due("20 of all, the last", x.host(ALL, 2), 9);
        Due.due("20 of all, the middle one", x.host(ALL, 1), 0);
        Due.due("20 of all but 20, the first", x.host(ALL & ~(1 << 20), 0), 19);
        Due.due("20 no night, no supper", x.count(1) + x.count(3), 0);
    }

    /** "so that a told GUEST pays most, of like ones the least" */
    private static void hostLeastOfLikeOnes() {
        FarthestPays x = Due.at("", "s0;s0;s10", 0, 1);
        // From 6 on 0 and 1 pay the half each, at 5 all three a third, for less the last one all.
        Due.due("20 he pays none of them", x.host(1 << 2 | 1 << 3 | 1 << 4, 0), 2);
        Due.due("20 he pays none of them, or 0", x.host(1 | 1 << 4, 0), 0);
        Due.due("20 a third of 5, or 4", x.host(1 << 4 | 1 << 5, 2), 4);
        Due.due("20 a third of 5, or none", x.host(1 << 4 | 1 << 5, 0), 5);
        FarthestPays y = Due.at("", "s3;s1;s5", 0, 1);
        Due.due("20 all of 2 or a half of 3", y.host(1 << 2 | 1 << 3, 2), 2);
        // For 4 he pays the half, for less all.
        FarthestPays z = Due.at("", "s0;s8", 0, 1);
        Due.due("20 like ones, a half of 4 or all of 2", z.host(1 << 2 | 1 << 4, 1), 2);
        Due.due("20 a half of 4 or all of 1", z.host(1 << 1 | 1 << 4, 1), 4);
        Due.due("20 a half of 4 or all of 3", z.host(1 << 3 | 1 << 4, 1), 3);
    }

    /** "how many GUESTS there are that PAY more than 0 for some SUM of that set" */
    private static void choiceAbove0() {
        FarthestPays x = Due.at("", "s0;s10;s20", 0, 1);
        Due.due("21 of 0", x.choice(1), 0);
        Due.due("21 of 1", x.choice(2), 1);
        Due.due("21 of 0 and 1", x.choice(3), 1);
        Due.due("21 of 10", x.choice(1 << 10), 2);
        Due.due("21 of 0 and 20", x.choice(1 | 1 << 20), 1);
        Due.due("21 of 1 and 20", x.choice(2 | 1 << 20), 2);
        Due.due("21 of all", x.choice(ALL), 2);
        x.rule(0, 1);
        Due.due("21 of all, the nearest", x.choice(ALL), 3);
        Due.due("21 of all but 0, the nearest", x.choice(ALL & ~1), 3);
        // For 0 alone he is the nearest.
        FarthestPays y = Due.at("", "s0;s1", 1, 0);
        Due.due("21 he pays for 0 alone", y.choice(ALL), 1);
    }

    private static void choiceOfAllNine() {
        FarthestPays x = Due.at("", "s;s;s;s;s;s;s;s;s", 0, 1);
        Due.due("21 nine", x.choice(1 << 20), 9);
        Due.due("21 nine of all", x.choice(ALL), 9);
        x.rule(0, 3);
        Due.due("21 eight", x.choice(ALL), 8);
        x.rule(0, 2);
        Due.due("21 two", x.choice(ALL), 2);
    }

    /** "NIGHTS 0 .. 11, as they come"; "FULL: 12" */
    private static void twelveNights() {
        FarthestPays x = Due.at("", "s5");
        for (int round = 0; round < 2; round++) {
            for (int i = 0; i < 12; i++) {
                Due.due("22 its number, " + i, x.night(i), i);
                Due.due("22 as many, " + i, x.count(3), i + 1);
            }
            Due.due("22 a thirteenth", x.night(5), -3);
            Due.due("22 a thirteenth for 0", x.night(0), -3);
            Due.due("22 twelve stay", x.count(3), 12);
            Due.due("25 twelve go", x.forget(), 12);
        }
        Due.due("22 the first again", x.night(5), 0);
    }

    /** "a SUM, with the GUESTS, SLIPS, LAWS of then" */
    private static void nightsOfThen() {
        FarthestPays x = Due.at("", "s1;s5;s9", 1, 0);
        x.night(5);
        x.slip(0, 7);
        x.slip(1, 9);
        x.slip(2, 3);
        x.rule(0, 0);
        x.rule(1, 2);
        x.guest(1);
        Due.due("22 slips of then", x.knew(), 0b010);
        Due.due("22 laws of then", x.leagues(1, 1), 2);
        Due.due("22 guests of then", x.leagues(1, 0), 1);
        Due.due("22 a second night", x.night(9), 1);
        Due.due("22 he knew again", x.knew(), 0b010);
        // Now 1 wrote 9, and is not between others.
        Due.due("22 no league again", x.leagues(1, 0), 0);
        FarthestPays ties = Due.at("", "s4;s5;s9;s5", 1, 2);
        ties.night(5);
        ties.rule(1, 0);
        Due.due("22 ties of then, the first", ties.leagues(1, 0), 0);
        Due.due("22 ties of then, the last", ties.leagues(3, 0), 1);
    }

    /** "(none without NIGHTS)" */
    private static void knewNoneWithoutNights() {
        Due.due("23 new", new FarthestPays().knew(), 0);
        FarthestPays x = Due.at("", "s;n;k");
        Due.due("23 none without nights", x.knew(), 0);
        x.night(0);
        Due.due("23 one night", x.knew(), 0b111);
        x.forget();
        Due.due("23 none without nights again", x.knew(), 0);
        x.night(20);
        Due.due("23 nobody", x.knew(), 0);
    }

    /** "whose SLIP was the SUM in each NIGHT" */
    private static void knewInEachOfTwelve() {
        FarthestPays x = Due.at("", "s;s;s;s;s;s;s;s;s");
        for (int i = 0; i < 12; i++) {
            for (int g = 0; g < 9; g++) {
                // 1 fails in the first NIGHT, 2 in the last, 3 by one above, 7 in the middle.
                boolean wrong = g == 1 && i == 0 || g == 2 && i == 11 || g == 7 && i == 6;
                x.slip(g, wrong ? 20 : g == 3 && i == 3 ? i + 1 : i);
            }
            x.night(i);
        }
        Due.due("23 in each of twelve", x.knew(), 0b101110001);
    }

    /** "those GUESTS who were there" */
    private static void knewOfThoseWhoWereThere() {
        FarthestPays x = Due.at("", "s0;s0");
        x.night(0);
        x.guest(0);
        x.night(0);
        // 2's SLIP was 0 in the NIGHT when he was there; in the one ahead he was not.
        Due.due("23 he came late", x.knew(), 0b011);
        FarthestPays nine = Due.at("", "s;s;s;s;s;s;s;s;s");
        nine.night(0);
        Due.due("23 all nine", nine.knew(), 0x1FF);
        nine.forget();
        nine.slip(8, 7);
        nine.night(7);
        Due.due("23 the ninth alone", nine.knew(), 0x100);
    }

    private static void leaguesNoneWithoutNights() {
        FarthestPays x = Due.at("", "s0;s5;s9", 1, 0);
        Due.due("24 none without nights", x.leagues(1, 0), 0);
        Due.due("24 the first of none", x.leagues(1, 1), -4);
        x.night(5);
        Due.due("24 one night", x.leagues(1, 0), 1);
        Due.due("24 the first of one", x.leagues(1, 1), 2);
        x.forget();
        Due.due("24 none without nights again", x.leagues(1, 0), 0);
        Due.due("24 the first of none again", x.leagues(1, 1), -4);
    }

    /** "one's SLIP .. below his, the other one's above his" */
    private static void leaguesBelowAndAbove() {
        int[][] slips = {{4, 5, 6}, {6, 5, 4}, {0, 5, 20}, {5, 5, 6}, {4, 5, 5}, {5, 5, 5}, {4, 5, 4}, {6, 5, 6}};
        int[] pairs = {1, 1, 1, 0, 0, 0, 0, 0};
        for (int i = 0; i < slips.length; i++) {
            int[] s = slips[i];
            FarthestPays x = Due.at("", "s" + s[0] + ";s" + s[1] + ";s" + s[2], 1, 1);
            x.night(5);
            String name = "24 " + s[0] + " " + s[1] + " " + s[2];
            Due.due(name, x.leagues(1, 0), pairs[i]);
            Due.due(name + ", first", x.leagues(1, 1), pairs[i] == 1 ? 2 : -4);
            // Against those at the ends nobody is in league.
            Due.due(name + ", against 0", x.leagues(0, 0), 0);
            Due.due(name + ", against 2", x.leagues(2, 0), 0);
        }
    }

    /** "(that of either, in each NIGHT anew)" */
    private static void leaguesInEachNight() {
        FarthestPays x = Due.at("", "s0;s5;s9", 1, 0);
        for (int i = 0; i < 12; i++) {
            x.slip(0, i % 2 == 0 ? i / 2 : 20 - i);
            x.slip(1, 8);
            x.slip(2, i % 2 == 0 ? 20 : 7);
            x.night(8);
            Due.due("24 either of them, night " + i, x.leagues(1, 1), 2);
        }
        // In the last one of twelve not, or in the first one.
        for (int not = 0; not < 12; not++) {
            FarthestPays y = Due.at("", "s0;s8;s9", 1, 0);
            for (int i = 0; i < 12; i++) {
                y.slip(2, i == not ? 8 : 9);
                y.night(8);
            }
            Due.due("24 not in night " + not, y.leagues(1, 0), 0);
        }
    }

    /** "and he was one of those who PAY" */
    private static void leaguesOfThoseWhoPay() {
        // 1 and 3 are as near: by TIES the first, each, the last; the farthest is 2.
        String guests = "s4;s9;s20;s11";
        for (int ties = 0; ties <= 2; ties++) {
            FarthestPays x = Due.at("", guests, 1, ties);
            x.night(10);
            Due.due("24 he pays, ties " + ties + ", 1", x.leagues(1, 0), ties == 2 ? 0 : 2);
            Due.due("24 he pays, ties " + ties + ", 3", x.leagues(3, 0), ties == 0 ? 0 : 2);
            Due.due("24 he pays not, ties " + ties, x.leagues(0, 0) + x.leagues(2, 0), 0);
        }
        FarthestPays two = Due.at("", "s4;s9;s20;s11", 2, 0);
        two.night(0);
        Due.due("24 one of two who pay", two.leagues(3, 0), 2);
        Due.due("24 one of two who pay, the first pair", two.leagues(3, 1), 2);
        Due.due("24 not one of two", two.leagues(1, 0), 0);
        // He pays in the second NIGHT, not in the first.
        FarthestPays x = Due.at("", "s4;s9;s20", 1, 0);
        x.night(20);
        x.night(9);
        Due.due("24 he must pay in each", x.leagues(1, 0), 0);
    }

    /** "(for a SUM of 0, too; ..)" */
    private static void leaguesForASumOf0() {
        FarthestPays x = Due.at("", "s2;s1;s3", 2, 0);
        x.night(0);
        Due.due("24 for 0, one of two", x.leagues(0, 0), 1);
        Due.due("24 for 0, one of two, first", x.leagues(0, 1), 12);
        Due.due("24 for 0, he pays no part", x.leagues(1, 0), 0);
        FarthestPays nearest = Due.at("", "s1;s0;s2", 1, 0);
        nearest.night(0);
        Due.due("24 for 0, the nearest is another", nearest.leagues(0, 0), 0);
    }

    /** "how many, the first as 10 a and b" */
    private static void leaguesHowManyAndTheFirst() {
        FarthestPays x = Due.at("", "s9;s9;s9;s9;s5;s1;s1;s1;s1", 1, 0);
        x.night(5);
        Due.due("24 four by four", x.leagues(4, 0), 16);
        Due.due("24 the first of sixteen", x.leagues(4, 1), 5);
        x.slip(0, 5);
        x.slip(1, 5);
        x.slip(2, 5);
        x.slip(3, 5);
        x.slip(4, 9);
        x.forget();
        x.night(5);
        // The first of the like ones pays: below him 5 .. 8, above 4.
        Due.due("24 one by four", x.leagues(0, 0), 4);
        Due.due("24 the first of four", x.leagues(0, 1), 45);
        FarthestPays last = Due.at("", "s5;s5;s5;s5;s5;s5;s5;s1;s9", 1, 0);
        last.night(5);
        Due.due("24 the last two", last.leagues(0, 0), 1);
        Due.due("24 the last two, 10 a and b", last.leagues(0, 1), 78);
        FarthestPays around = Due.at("", "s1;s5;s5;s5;s5;s5;s5;s5;s9", 1, 0);
        around.night(5);
        Due.due("24 the first and the last", around.leagues(1, 1), 8);
        Due.due("24 the first two", Due.at("", "s1;s9;s5", 1, 0).leagues(2, 1), -4);
        FarthestPays first = Due.at("", "s1;s9;s5", 1, 0);
        first.night(5);
        Due.due("24 the first two, 10 a and b", first.leagues(2, 1), 1);
    }

    /** "pairs of others .. who were there with him in each NIGHT" */
    private static void leaguesOfThoseWhoWereThere() {
        FarthestPays x = Due.at("", "s5;s1", 1, 0);
        x.night(5);
        x.guest(0);
        x.slip(2, 9);
        x.night(5);
        Due.due("24 2 was not there in the first night", x.leagues(0, 0), 0);
        x.forget();
        x.night(5);
        Due.due("24 2 was there", x.leagues(0, 1), 12);
        x.guest(0);
        x.slip(3, 20);
        x.night(5);
        Due.due("24 3 was not there", x.leagues(0, 0), 1);
        // Against one who was not there.
        x.slip(3, 8);
        x.rule(0, 0);
        Due.due("24 against one who came late", x.leagues(3, 0), 0);
        Due.due("24 against one who came late, first", x.leagues(3, 1), -4);
        x.guest(0);
        Due.due("24 against one who was in no night", x.leagues(4, 0), 0);
        Due.due("24 two alone", two().leagues(0, 0), 0);
    }

    private static FarthestPays two() {
        FarthestPays x = Due.at("", "s5;s6");
        x.night(20);
        return x;
    }

    /** "All NIGHTS go: how many." */
    private static void forgetting() {
        FarthestPays x = new FarthestPays();
        Due.due("25 none of a new one", x.forget(), 0);
        x.guest(0);
        for (int n = 0; n <= 12; n++) {
            for (int i = 0; i < n; i++) {
                x.night(0);
            }
            Due.due("25 " + n, x.forget(), n);
            Due.due("25 " + n + ", none then", x.forget(), 0);
            Due.due("25 " + n + ", none is kept", x.count(3), 0);
        }
        x.night(3);
        x.forget();
        x.night(0);
        Due.due("25 those forgotten do not count", x.knew(), 1);
    }

    /** "NONE: there is none." */
    private static void noImageYet() {
        FarthestPays x = Due.at("10x1", "s5");
        x.night(5);
        Due.due("27 none", x.restore(), -4);
        Due.due("27 none changes nothing", x.count(0) + x.count(2) + x.count(3), 3);
        Due.due("27 none, again", x.restore(), -4);
        Due.due("26 one", x.image(), 1);
        Due.due("27 there is one", x.restore(), 1);
        Due.due("27 and again", x.restore(), 1);
        // Each object has its own.
        Due.due("27 another object has none", new FarthestPays().restore(), -4);
    }

    private static void imageOfANewObject() {
        FarthestPays x = new FarthestPays();
        Due.due("26 of nobody", x.image(), 1);
        Due.supper(x, "10x5");
        Due.guests(x, "s5;n");
        x.rule(0, 3);
        x.rule(1, 2);
        x.night(5);
        Due.due("27 nobody again", x.restore(), 1);
        for (int what = 0; what < 4; what++) {
            Due.due("27 nobody, no supper, " + what, x.count(what), 0);
        }
        Due.due("27 nobody pays", x.pay(0), -4);
        Due.due("27 laws of then", x.rule(0, 0) + x.rule(1, 0), 0);
        Due.due("27 guests anew", x.guest(3), 0);
        Due.due("27 his slip", x.told(0, 1), 0);
    }

    /** "All is as it was then": SUPPER, GUESTS, KINDS, SLIPS, LAWS, NIGHTS. */
    private static void imageOfAll() {
        FarthestPays x = Due.at("0x1,20x99", "s0;f20;n;k7;s1;s2;s3;s4;s5", 3, 2);
        for (int i = 0; i < 12; i++) {
            x.slip(0, i);
            x.night(i);
        }
        x.image();
        x.weight(0, 0);
        x.weight(7, 7);
        x.weight(20, 98);
        x.forget();
        Due.guests(x, "k9");
        x.night(9);
        x.rule(0, 0);
        x.rule(1, 0);
        for (int round = 0; round < 2; round++) {
            Due.due("27 restored", x.restore(), 1);
            int[] counts = {9, 2, 100, 12};
            for (int what = 0; what < 4; what++) {
                Due.due("27 count " + what, x.count(what), counts[what]);
            }
            int[] kinds = {0, 1, 2, 3, 0, 0, 0, 0, 0};
            int[] slips = {11, 20, 0, 7, 1, 2, 3, 4, 5};
            for (int g = 0; g < 9; g++) {
                Due.due("27 kind " + g, x.told(g, 0), kinds[g]);
                Due.due("27 slip " + g, x.told(g, 1), slips[g]);
            }
            Due.due("27 nights of then", x.knew(), 1);
            Due.due("27 no more nights", x.night(0), -3);
            Due.due("27 who", x.rule(0, 1), 3);
            Due.due("27 ties", x.rule(1, 1), 2);
            Due.due("27 weight 0", x.weight(0, 5), 1);
            Due.due("27 weight 7", x.weight(7, 5), 0);
            Due.due("27 weight 20", x.weight(20, 5), 99);
            // What comes behind changes nothing in the IMAGE.
            x.slip(3, 8);
            x.forget();
        }
    }

    /** "All but SHEETS, THE TAPE" */
    private static void imageWithoutSheetsAndTape() {
        FarthestPays x = Due.at("10x1", "s5;s6");
        x.sheet(0, 0, 2);
        x.item(0, 0, 0, 1);
        x.type('7', 1);
        x.image();
        x.item(0, 0, 0, 0);
        x.sheet(1, 1, 3);
        x.type(Due.bytes("x8"), 2);
        x.restore();
        Due.due("27 the item stays as it is", x.mixed(0, 0, 0, 0, 1, 1), -2);
        Due.due("27 the new sheet stays", x.drop(1), 3);
        Due.due("27 the tape stays", x.type(' ', 1), 4);
        Due.due("27 7x8", x.supper(), 8);
        x.drop(0);
        x.restore();
        Due.due("27 what was dropped stays away", x.drop(0), -11);
        Due.due("27 what was read stays away", x.supper(), -20);
        // An IMAGE in place of the other one.
        x.slip(0, 19);
        Due.due("26 another one", x.image(), 1);
        x.slip(0, 3);
        Due.due("27 the later one", x.restore(), 1);
        Due.due("27 its slip", x.told(0, 1), 19);
    }
}
