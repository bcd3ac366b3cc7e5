/** Promises 18 to 27. */
public final class LeaguesHostNightsTest {
    private LeaguesHostNightsTest() {
    }

    public static void main(String[] args) {
        league();
        leagueRefused();
        shun();
        host();
        choice();
        night();
        knew();
        leagues();
        leaguesOfThen();
        forget();
        image();
        Due.finish("LeaguesHostNightsTest");
    }

    private static void league() {
        FarthestPays x = Due.at("10x1", "s0;s20;s10");
        // He who wrote the sum pays if the two write it, too, and he is the first, or comes last by TIES.
        x.rule(1, 2);
        Due.due("18 a's", x.league(0, 1, 2, 0), 10);
        Due.due("18 b's", x.league(0, 1, 2, 1), 10);
        x.slip(2, 5);
        Due.due("18 first of like ones, a's", x.league(0, 1, 2, 0), 5);
        Due.due("18 first of like ones, b's", x.league(0, 1, 2, 1), 5);
        Due.due("18 slips stay", x.told(0, 1) * 100 + x.told(1, 1), 20);
        FarthestPays y = Due.at("10x1", "s10;n;n");
        Due.due("18 noughts too, a's", y.league(1, 2, 0, 0), 10);
        Due.due("18 noughts too, b's", y.league(1, 2, 0, 1), 10);
        Due.due("18 noughts stay", y.told(1, 1) + y.told(2, 1), 0);
        FarthestPays apart = Due.at("4x1,16x1", "s10;s;s");
        // c is off by 6 from both sums: a and b write what is nearer, from below and so less than he.
        Due.due("18 two sums, a's", apart.league(1, 2, 0, 0), 10);
        Due.due("18 two sums, b's", apart.league(1, 2, 0, 1), 10);
        // By halves: a pays one, and c is the other one once b is nearer than he.
        FarthestPays halves = Due.at("10x1", "s;s;s5", 2, 0);
        Due.due("18 unlike slips, a's", halves.league(0, 1, 2, 0), 0);
        Due.due("18 unlike slips, b's", halves.league(0, 1, 2, 1), 6);
        // With b and a in each other's place b, the first by numbers, is ahead of a of like slips, too.
        Due.due("18 a's, then b's: a's", halves.league(1, 0, 2, 0), 0);
        Due.due("18 a's, then b's: b's", halves.league(1, 0, 2, 1), 6);
        // The last guest is as he is: the nearest but for 10 and above.
        FarthestPays others = Due.at("10x1", "s;s;s10;s11", 0, 2);
        Due.due("18 the others as they are, a's", others.league(0, 1, 2, 0), 0);
        Due.due("18 the others as they are, b's", others.league(0, 1, 2, 1), 0);
        Due.due("18 zero alone", Due.at("0x1", "s10;s;s").league(1, 2, 0, 1), 0);
    }

    private static void leagueRefused() {
        FarthestPays x = Due.at("10x1", "s0;s20;s10");
        Due.due("18 a and b alike", x.league(0, 0, 2, 0), -1);
        Due.due("18 a and c alike", x.league(0, 1, 0, 0), -1);
        Due.due("18 b and c alike", x.league(0, 1, 1, 0), -1);
        Due.due("18 a is none", x.league(3, 1, 2, 0), -1);
        Due.due("18 b is none", x.league(0, -1, 2, 0), -1);
        Due.due("18 c is none", x.league(0, 1, 3, 0), -1);
        Due.due("18 what above", x.league(0, 1, 2, 2), -1);
        Due.due("18 what below", x.league(0, 1, 2, -1), -1);
        FarthestPays none = Due.at("", "s0;s20;s10");
        Due.due("18 no weight", none.league(0, 1, 2, 0), -2);
        Due.due("18 BAD ahead of NOT", none.league(0, 1, 1, 0), -1);
        Due.due("18 what is BAD ahead of NOT", none.league(0, 1, 2, 2), -1);
    }

    private static void shun() {
        FarthestPays x = Due.at("10x1", "s0;s20;s3");
        Due.due("19 the first of like ones pays", x.shun(0, 1, 2), 10);
        // c is the first by numbers, so he pays whatever he writes.
        Due.due("19 nothing helps", x.shun(1, 2, 0), 0);
        Due.due("19 slips stay", x.told(0, 1) + 100 * x.told(1, 1) + 10000 * x.told(2, 1), 32000);
        FarthestPays two = Due.at("4x1,16x3", "s0;s20;s3", 0, 0);
        Due.due("19 two sums", two.shun(0, 1, 2), 16);
        Due.due("19 nought too", Due.at("10x1", "s0;s20;n").shun(0, 1, 2), 10);
        Due.due("19 a and b alike", x.shun(0, 0, 2), -1);
        Due.due("19 a and c alike", x.shun(0, 1, 0), -1);
        Due.due("19 b and c alike", x.shun(0, 1, 1), -1);
        Due.due("19 a is none", x.shun(-1, 1, 2), -1);
        Due.due("19 b is none", x.shun(0, 3, 2), -1);
        Due.due("19 c is none", x.shun(0, 1, 3), -1);
        FarthestPays none = Due.at("", "s0;s20;s10");
        Due.due("19 no weight", none.shun(0, 1, 2), -2);
        Due.due("19 BAD ahead of NOT", none.shun(0, 0, 2), -1);
    }

    private static void host() {
        FarthestPays x = Due.at("", "s0;s10");
        // 0 pays for 5 and above (at 5 the first of like ones), 1 for all below.
        Due.due("20 the dearest", x.host(0x1FFFFF, 0), 20);
        Due.due("20 of the set", x.host(1 << 7 | 1 << 9, 0), 9);
        Due.due("20 for the other", x.host(0x1FFFFF, 1), 4);
        Due.due("20 of like ones the least", x.host(1 << 12 | 1 << 15, 1), 12);
        Due.due("20 0 alone", x.host(1, 0), 0);
        FarthestPays shared = Due.at("", "s0;s4;s8", 0, 1);
        // For 4 each of two pays 2; for 3 the third one pays all.
        Due.due("20 a share less than a lesser sum", shared.host(1 << 3 | 1 << 4, 2), 3);
        Due.due("20 the empty set", x.host(0, 0), -1);
        Due.due("20 bit 21", x.host(1 << 21, 0), -1);
        Due.due("20 bit 31", x.host(Integer.MIN_VALUE | 1, 0), -1);
        Due.due("20 guest above", x.host(1, 2), -1);
        Due.due("20 guest below", x.host(1, -1), -1);
    }

    private static void choice() {
        FarthestPays x = Due.at("", "s0;s10;s4");
        Due.due("21 all sums", x.choice(0x1FFFFF), 2);
        Due.due("21 one sum", x.choice(1 << 20), 1);
        Due.due("21 0 costs nobody", x.choice(1), 0);
        x.rule(0, 1);
        Due.due("21 nearest", x.choice(0x1FFFFF), 3);
        x.rule(0, 2);
        Due.due("21 two at once", x.choice(1 << 20), 2);
        Due.due("21 the empty set", x.choice(0), -1);
        Due.due("21 bit 21", x.choice(1 << 21 | 1), -1);
        Due.due("21 bit 31", x.choice(-1), -1);
        Due.due("21 nobody", new FarthestPays().choice(2), 0);
        Due.due("21 nobody, the empty set", new FarthestPays().choice(0), -1);
    }

    private static void night() {
        FarthestPays x = new FarthestPays();
        Due.due("22 nobody", x.night(3), -2);
        Due.due("22 BAD ahead of NOT", x.night(21), -1);
        Due.due("22 none kept", x.count(3), 0);
        x.guest(0);
        for (int i = 0; i < 12; i++) {
            Due.due("22 night " + i, x.night(i), i);
        }
        Due.due("22 full", x.night(3), -3);
        Due.due("22 BAD ahead of FULL", x.night(-1), -1);
        Due.due("22 twelve stay", x.count(3), 12);
    }

    private static void knew() {
        FarthestPays x = Due.at("", "s5;k5;n;f5");
        Due.due("23 no nights", x.knew(), 0);
        x.night(5);
        Due.due("23 three", x.knew(), 0b1011);
        x.weight(5, 1);
        x.rule(0, 3);
        x.slip(0, 6);
        Due.due("23 slips of then", x.knew(), 0b1011);
        x.slip(1, 7);
        x.slip(3, 7);
        x.guest(0);
        x.slip(4, 7);
        x.night(7);
        Due.due("23 in each night", x.knew(), 0b1010);
        Due.due("23 he was not there", x.knew() & 0b10000, 0);
        x.night(0);
        Due.due("23 none any more", x.knew(), 0);
        FarthestPays y = Due.at("", "n;s9");
        y.night(0);
        Due.due("23 a nought", y.knew(), 0b1);
    }

    private static void leagues() {
        FarthestPays x = Due.at("", "s2;s5;s9;s1;s5");
        Due.due("24 no nights", x.leagues(1, 0), 0);
        Due.due("24 no nights, first", x.leagues(1, 1), -4);
        x.rule(0, 1);
        x.night(5);
        // 1 wrote 5 and pays as the nearest; below him 0 and 3, above 2.
        Due.due("24 pairs", x.leagues(1, 0), 2);
        Due.due("24 first", x.leagues(1, 1), 2);
        Due.due("24 another who does not pay", x.leagues(4, 0), 0);
        Due.due("24 another who does not pay, first", x.leagues(4, 1), -4);
        x.slip(0, 9);
        x.slip(2, 2);
        x.slip(3, 9);
        x.night(5);
        // 0 and 2 changed sides, 3 wrote above like 0.
        Due.due("24 either, in each night anew", x.leagues(1, 0), 2);
        Due.due("24 first again", x.leagues(1, 1), 2);
        x.slip(0, 1);
        x.night(5);
        Due.due("24 one pair left", x.leagues(1, 0), 1);
        Due.due("24 10 a and b", x.leagues(1, 1), 23);
        x.slip(1, 2);
        x.night(9);
        Due.due("24 he must pay in each", x.leagues(1, 0), 0);
        Due.due("24 guest above", x.leagues(5, 0), -1);
        Due.due("24 guest below", x.leagues(-1, 0), -1);
        Due.due("24 what above", x.leagues(0, 2), -1);
        Due.due("24 what below", x.leagues(0, -1), -1);
    }

    private static void leaguesOfThen() {
        FarthestPays x = Due.at("", "s1;s2;s3", 1, 0);
        x.slip(1, 2);
        x.slip(0, 1);
        x.night(2);
        x.guest(0);
        x.slip(3, 9);
        x.rule(0, 0);
        Due.due("24 laws of then", x.leagues(1, 0), 1);
        Due.due("24 a late one is in none", x.leagues(1, 1), 2);
        Due.due("24 against a late one", x.leagues(3, 0), 0);
        FarthestPays zero = Due.at("", "s3;s2;s20", 2, 0);
        zero.night(0);
        Due.due("24 for a sum of 0, too", zero.leagues(0, 1), 12);
        FarthestPays shared = Due.at("", "s0;s5;s20;s5", 1, 1);
        shared.night(6);
        Due.due("24 one of those who pay", shared.leagues(3, 0), 1);
        Due.due("24 one of those who pay, first", shared.leagues(3, 1), 2);
    }

    private static void forget() {
        FarthestPays x = Due.at("", "s5");
        Due.due("25 none", x.forget(), 0);
        x.night(5);
        x.night(5);
        Due.due("25 two", x.forget(), 2);
        Due.due("25 gone", x.count(3), 0);
        Due.due("25 nobody knew", x.knew(), 0);
        Due.due("25 anew", x.night(4), 0);
        Due.due("25 the new one counts", x.knew(), 0);
    }

    private static void image() {
        FarthestPays x = Due.at("10x3", "k5;s7", 2, 1);
        Due.due("27 none", x.restore(), -4);
        x.night(7);
        x.sheet(1, 1, 2);
        x.type('s', 1);
        Due.due("26 kept", x.image(), 1);
        x.type('4', 1);
        x.sheet(1, 2, 3);
        x.rule(0, 0);
        x.rule(1, 0);
        x.weight(10, 4);
        x.weight(3, 4);
        x.slip(0, 1);
        x.guest(1);
        x.forget();
        x.slip(1, 8);
        x.rule(0, 1);
        x.night(9);
        x.night(9);
        Due.due("27 as it was", x.restore(), 1);
        asImaged(x);
        Due.due("27 the tape stays", x.type(' ', 1), 3);
        Due.due("27 the sheet stays", x.drop(1), 3);
        Due.due("27 what the tape holds", x.guests(), 1);
        Due.due("27 nights are gone", x.count(3), 0);
        Due.due("27 once more", x.restore(), 1);
        asImaged(x);
        x.slip(1, 9);
        Due.due("26 in place of the other one", x.image(), 1);
        x.slip(1, 2);
        x.restore();
        Due.due("27 the later image", x.told(1, 1), 9);
        FarthestPays y = new FarthestPays();
        y.image();
        y.guest(0);
        y.night(0);
        y.restore();
        Due.due("27 nobody", y.count(0), 0);
        Due.due("27 no nights", y.count(3), 0);
    }

    private static void asImaged(FarthestPays x) {
        Due.due("27 guests", x.count(0), 2);
        Due.due("27 kind", x.told(0, 0), 3);
        Due.due("27 slip", x.told(0, 1), 5);
        Due.due("27 sums", x.count(1), 1);
        Due.due("27 weights", x.count(2), 3);
        Due.due("27 nights", x.count(3), 1);
        Due.due("27 nights' slips", x.knew(), 0b10);
        Due.due("27 who", x.rule(0, 2), 2);
        Due.due("27 ties", x.rule(1, 1), 1);
    }
}
