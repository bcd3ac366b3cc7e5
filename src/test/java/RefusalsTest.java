import java.util.List;

/**
 * "Refusals are answers, of several the first that a call names"; "(NULL, CAST, INDEX, SIZE in this order, behind
 * BAD)"; "What is refused changes nothing, but as told".
 */
public final class RefusalsTest {
    private static final int BAD = -1, NOT = -2, FULL = -3, NONE = -4, NULL = -11, CAST = -12, INDEX = -13, SIZE = -14;
    private static final int ALL = 0x1FFFFF;

    /** States to be refused in. */
    private enum State { RICH, FULL_UP, NO_WEIGHT, NOBODY, NEW }

    private interface Call {
        long on(FarthestPays x);
    }

    private RefusalsTest() {
    }

    public static void main(String[] args) {
        readingsTellApart();
        suppersGuests();
        weightsMissing();
        leaguesNights();
        sheetsMissing();
        mixed();
        faults();
        Due.finish("RefusalsTest");
    }

    private static FarthestPays in(State state) {
        switch (state) {
            case RICH: return rich(2);
            case FULL_UP: return fullUp();
            case NO_WEIGHT: {
                FarthestPays x = rich(2);
                x.weight(10, 0);
                x.weight(4, 0);
                return x;
            }
            case NOBODY: {
                FarthestPays x = new FarthestPays();
                Due.supper(x, "10x2,4x1");
                withSheets(x);
                return x;
            }
            default: return new FarthestPays();
        }
    }

    /** Four guests of all kinds, some nights, an image of another state, a tape that is a supper, three sheets. */
    private static FarthestPays rich(int nights) {
        FarthestPays x = Due.at("6x3,20x1", "k5;n", 1, 1);
        x.night(0);
        x.image();
        Due.supper(x, "10x2,4x1");
        Due.guests(x, "s3;f8;n;k12");
        x.rule(0, 3);
        x.rule(1, 2);
        for (int i = 0; i < nights; i++) {
            x.night(3);
        }
        withSheets(x);
        Due.type(x, "7x7,3x3");
        return x;
    }

    private static void withSheets(FarthestPays x) {
        int[] sizes = {4, 24, 5};
        for (int sheet = 0; sheet < 3; sheet++) {
            x.sheet(sheet, sheet, sizes[sheet]);
            for (int i = 0; i < sizes[sheet]; i++) {
                x.item(sheet, sheet, i, 1 + i + sheet);
            }
        }
    }

    private static FarthestPays fullUp() {
        FarthestPays x = rich(12);
        for (int i = 0; i < 5; i++) {
            x.guest(i % 4);
        }
        Due.type(x, "                                                                         ");
        return x;
    }

    /** The call is refused, and all reads then as it does without the call. */
    private static void refused(String name, long want, State state, Call call) {
        FarthestPays x = in(state);
        Due.due(name + " in " + state, call.on(x), want);
        List<Long> got = Reading.of(x);
        Due.due(name + " in " + state + " changes nothing", got.equals(Reading.of(in(state))) ? 0 : 1, 0);
    }

    /** That a reading sees what a refused call might change. */
    private static void readingsTellApart() {
        seen("weight", x -> x.weight(4, 2));
        seen("guest", x -> x.guest(0));
        seen("slip", x -> x.slip(0, 4));
        seen("write", x -> x.write(3));
        seen("who", x -> x.rule(0, 0));
        seen("ties", x -> x.rule(1, 0));
        seen("type", x -> x.type(' ', 1));
        seen("supper", x -> x.supper());
        seen("guests", x -> x.guests());
        seen("turns", x -> x.turns(40));
        seen("night", x -> x.night(3));
        seen("forget", x -> x.forget());
        seen("image", x -> x.image());
        seen("restore", x -> x.restore());
        seen("sheet", x -> x.sheet(3, 0, 0));
        seen("a new row", x -> x.sheet(2, 2, 5));
        seen("a lane", x -> x.sheet(0, 1, 4));
        seen("drop", x -> x.drop(1));
        seen("item", x -> x.item(0, 0, 3, 9));
        seen("film", x -> x.film(2, 2, 1));
    }

    private static void seen(String name, Call call) {
        FarthestPays x = in(State.RICH);
        call.on(x);
        Due.due("a reading sees " + name, Reading.of(x).equals(Reading.of(in(State.RICH))) ? 0 : 1, 1);
    }

    private static void suppersGuests() {
        refused("2 weight, sum", BAD, State.RICH, x -> x.weight(21, 5));
        refused("2 weight, weight", BAD, State.RICH, x -> x.weight(4, 100));
        refused("2 weight below", BAD, State.RICH, x -> x.weight(4, -1));
        refused("3 guest", BAD, State.RICH, x -> x.guest(4));
        refused("3 guest, full", FULL, State.FULL_UP, x -> x.guest(0));
        refused("3 guest, BAD ahead of FULL", BAD, State.FULL_UP, x -> x.guest(4));
        refused("4 slip, guest", BAD, State.RICH, x -> x.slip(4, 5));
        refused("4 slip, sum", BAD, State.RICH, x -> x.slip(0, 21));
        refused("4 slip, nought", NOT, State.RICH, x -> x.slip(2, 5));
        refused("4 slip, BAD ahead of NOT", BAD, State.RICH, x -> x.slip(2, 21));
        refused("4 slip, BAD ahead of NOT, below", BAD, State.RICH, x -> x.slip(2, -1));
        refused("5 write", BAD, State.RICH, x -> x.write(21));
        refused("5 write, no weight", NOT, State.NO_WEIGHT, x -> x.write(5));
        refused("5 write, BAD ahead of NOT", BAD, State.NO_WEIGHT, x -> x.write(-1));
        refused("5 write, no weight, nobody", NOT, State.NEW, x -> x.write(5));
        refused("6 told, guest", BAD, State.RICH, x -> x.told(4, 0));
        refused("6 told, what", BAD, State.RICH, x -> x.told(0, 2));
        refused("7 rule, what", BAD, State.RICH, x -> x.rule(2, 0));
        refused("7 rule, who", BAD, State.RICH, x -> x.rule(0, 4));
        refused("7 rule, ties", BAD, State.RICH, x -> x.rule(1, 3));
        refused("8 type, n", BAD, State.RICH, x -> x.type(Due.bytes("12345678"), 9));
        refused("8 type, first byte", BAD, State.RICH, x -> x.type(Due.bytes("\t234"), 4));
        refused("8 type, last byte", BAD, State.RICH, x -> x.type(Due.bytes("123\t"), 4));
        refused("8 type, full", FULL, State.FULL_UP, x -> x.type(' ', 1));
        refused("8 type, eight bytes, full", FULL, State.FULL_UP, x -> x.type(Due.bytes("12345678"), 8));
        refused("8 type, BAD ahead of FULL, n", BAD, State.FULL_UP, x -> x.type(' ', 0));
        refused("8 type, BAD ahead of FULL, byte", BAD, State.FULL_UP, x -> x.type('\t', 1));
        refused("11 count", BAD, State.RICH, x -> x.count(4));
    }

    /** "one at least must be above 0 where it is asked" */
    private static void weightsMissing() {
        refused("12 pay", BAD, State.RICH, x -> x.pay(21));
        refused("12 pay, nobody", NONE, State.NOBODY, x -> x.pay(20));
        refused("12 pay, BAD ahead of NONE", BAD, State.NOBODY, x -> x.pay(21));
        refused("13 pays", BAD, State.RICH, x -> x.pays(0, 5, 2));
        refused("14 mean, no weight", NOT, State.NO_WEIGHT, x -> x.mean(3, 1));
        refused("14 mean, BAD ahead of NOT, guest", BAD, State.NO_WEIGHT, x -> x.mean(4, 1));
        refused("14 mean, BAD ahead of NOT, part", BAD, State.NO_WEIGHT, x -> x.mean(3, 2));
        refused("15 best, no weight", NOT, State.NO_WEIGHT, x -> x.best(3));
        refused("15 best, BAD ahead of NOT", BAD, State.NO_WEIGHT, x -> x.best(4));
        refused("16 still, no weight", NOT, State.NO_WEIGHT, x -> x.still());
        refused("16 still, no weight, nobody", NOT, State.NEW, x -> x.still());
        refused("17 turns", BAD, State.RICH, x -> x.turns(41));
        refused("17 turns, no weight", NOT, State.NO_WEIGHT, x -> x.turns(40));
        refused("17 turns, no weight, nobody", NOT, State.NEW, x -> x.turns(1));
        refused("17 turns, BAD ahead of NOT", BAD, State.NO_WEIGHT, x -> x.turns(0));
        refused("18 league, no weight", NOT, State.NO_WEIGHT, x -> x.league(0, 1, 2, 1));
        refused("18 league, BAD ahead of NOT, alike", BAD, State.NO_WEIGHT, x -> x.league(0, 1, 0, 1));
        refused("18 league, BAD ahead of NOT, guest", BAD, State.NO_WEIGHT, x -> x.league(0, 1, 4, 1));
        refused("18 league, BAD ahead of NOT, what", BAD, State.NO_WEIGHT, x -> x.league(0, 1, 2, 2));
        refused("19 shun, no weight", NOT, State.NO_WEIGHT, x -> x.shun(0, 1, 2));
        refused("19 shun, BAD ahead of NOT, alike", BAD, State.NO_WEIGHT, x -> x.shun(0, 0, 2));
        refused("19 shun, BAD ahead of NOT, guest", BAD, State.NO_WEIGHT, x -> x.shun(4, 1, 2));
    }

    private static void leaguesNights() {
        refused("18 league", BAD, State.RICH, x -> x.league(1, 1, 2, 0));
        refused("19 shun", BAD, State.RICH, x -> x.shun(0, 2, 2));
        refused("20 host, set", BAD, State.RICH, x -> x.host(0, 0));
        refused("20 host, guest", BAD, State.RICH, x -> x.host(ALL, 4));
        refused("21 choice", BAD, State.RICH, x -> x.choice(ALL + 1));
        refused("22 night", BAD, State.RICH, x -> x.night(21));
        refused("22 night, nobody", NOT, State.NOBODY, x -> x.night(20));
        refused("22 night, BAD ahead of NOT", BAD, State.NOBODY, x -> x.night(21));
        refused("22 night, full", FULL, State.FULL_UP, x -> x.night(0));
        refused("22 night, BAD ahead of FULL", BAD, State.FULL_UP, x -> x.night(-1));
        refused("24 leagues, guest", BAD, State.RICH, x -> x.leagues(4, 0));
        refused("24 leagues, what", BAD, State.RICH, x -> x.leagues(0, 2));
        refused("24 leagues, none", NONE, State.RICH, x -> x.leagues(3, 1));
        refused("27 restore, none", NONE, State.NOBODY, x -> x.restore());
        refused("27 restore, none, new", NONE, State.NEW, x -> x.restore());
    }

    private static void sheetsMissing() {
        refused("29 sheet", BAD, State.RICH, x -> x.sheet(4, 0, 3));
        refused("29 sheet, n", BAD, State.RICH, x -> x.sheet(1, 1, 25));
        refused("29 sheet, lane", BAD, State.RICH, x -> x.sheet(1, 3, 3));
        refused("29 sheet, size", SIZE, State.RICH, x -> x.sheet(1, 0, -1));
        refused("29 sheet, size of nothing", SIZE, State.RICH, x -> x.sheet(3, 0, -1));
        refused("29 sheet, BAD ahead of SIZE, sheet", BAD, State.RICH, x -> x.sheet(-1, 0, -1));
        refused("29 sheet, BAD ahead of SIZE, lane", BAD, State.RICH, x -> x.sheet(1, -1, -1));
        refused("30 drop", BAD, State.RICH, x -> x.drop(4));
        refused("30 drop, nothing", NULL, State.RICH, x -> x.drop(3));
        refused("31 item, nothing", NULL, State.RICH, x -> x.item(3, 0, 0, 9));
        refused("31 item, another lane", CAST, State.RICH, x -> x.item(2, 1, 0, 9));
        refused("31 item, index", INDEX, State.RICH, x -> x.item(2, 2, 5, 9));
        refused("31 item, BAD ahead of NULL", BAD, State.RICH, x -> x.item(3, 3, 0, 9));
        refused("31 item, BAD ahead of CAST and INDEX", BAD, State.RICH, x -> x.item(2, 3, 5, 9));
        refused("31 item, NULL ahead of INDEX", NULL, State.RICH, x -> x.item(3, 0, -1, 9));
        refused("31 item, CAST ahead of INDEX", CAST, State.RICH, x -> x.item(2, 1, 5, 9));
        refused("32 film, nothing", NULL, State.RICH, x -> x.film(3, 0, 0));
        refused("32 film, another lane", CAST, State.RICH, x -> x.film(0, 1, 0));
        refused("32 film, index", INDEX, State.RICH, x -> x.film(2, 2, 2));
        refused("32 film, index below", INDEX, State.RICH, x -> x.film(2, 2, -1));
        refused("32 film, BAD ahead of NULL", BAD, State.RICH, x -> x.film(3, 3, 0));
        refused("32 film, BAD ahead of CAST and INDEX", BAD, State.RICH, x -> x.film(2, 3, 2));
        refused("32 film, NULL ahead of INDEX", NULL, State.RICH, x -> x.film(3, 0, -1));
        refused("32 film, CAST ahead of INDEX", CAST, State.RICH, x -> x.film(2, 0, -1));
        refused("32 film of nobody, nothing", NULL, State.NOBODY, x -> x.film(3, 0, 0));
        refused("32 film of nobody, another lane", CAST, State.NOBODY, x -> x.film(0, 1, 0));
        refused("32 film of nobody, index", INDEX, State.NOBODY, x -> x.film(0, 0, 5));
    }

    private static void mixed() {
        State rich = State.RICH;
        refused("28 NULL", NULL, rich, x -> x.mixed(0, 3, 0, 0, 1, 0));
        refused("28 CAST", CAST, rich, x -> x.mixed(0, 0, 1, 0, 1, 0));
        refused("28 INDEX", INDEX, rich, x -> x.mixed(0, 0, 0, 1, 4, 0));
        refused("28 NULL ahead of INDEX", NULL, rich, x -> x.mixed(0, 3, 0, -1, 1, 0));
        refused("28 CAST ahead of INDEX", CAST, rich, x -> x.mixed(0, 0, 1, 1, 4, 0));
        refused("28 BAD ahead of NULL, guest", BAD, rich, x -> x.mixed(4, 3, 0, 0, 1, 0));
        refused("28 BAD ahead of NULL, lane", BAD, rich, x -> x.mixed(0, 3, 3, 0, 1, 0));
        refused("28 BAD ahead of NULL, n", BAD, rich, x -> x.mixed(0, 3, 0, 0, 22, 0));
        refused("28 BAD ahead of NULL, part", BAD, rich, x -> x.mixed(0, 3, 0, 0, 1, 2));
        refused("28 BAD ahead of CAST", BAD, rich, x -> x.mixed(0, 0, 1, 0, 0, 0));
        refused("28 BAD ahead of INDEX", BAD, rich, x -> x.mixed(0, 0, 0, 4, 1, -1));
        refused("28 NOT", NOT, State.NO_WEIGHT, x -> x.mixed(0, 0, 0, 0, 4, 0));
        refused("28 INDEX ahead of NOT", INDEX, State.NO_WEIGHT, x -> x.mixed(0, 0, 0, 4, 1, 0));
        refused("28 CAST ahead of NOT", CAST, State.NO_WEIGHT, x -> x.mixed(0, 0, 2, 0, 1, 0));
        refused("28 NULL ahead of NOT", NULL, State.NO_WEIGHT, x -> x.mixed(0, 3, 0, 0, 1, 0));
        refused("28 BAD ahead of NOT", BAD, State.NO_WEIGHT, x -> x.mixed(0, 0, 0, 0, 0, 0));
        refused("28 nobody", BAD, State.NOBODY, x -> x.mixed(0, 0, 0, 0, 1, 0));
    }

    /** What is refused "but as told" changes the tape alone, which is empty then. */
    private static void faults() {
        FarthestPays x = rich(2);
        Due.due("9 a fault", Due.supper(x, ","), -28);
        FarthestPays same = rich(2);
        same.supper();
        Due.supper(same, "10x2,4x1");
        Due.due("9 a fault changes the tape alone", Reading.of(x).equals(Reading.of(same)) ? 0 : 1, 0);
        x = rich(2);
        Due.due("10 a fault", x.guests(), -20);
        same = rich(2);
        same.supper();
        Due.supper(same, "10x2,4x1");
        Due.due("10 a fault changes the tape alone", Reading.of(x).equals(Reading.of(same)) ? 0 : 1, 0);
    }
}
