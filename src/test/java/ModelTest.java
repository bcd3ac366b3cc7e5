import java.util.Random;

/** Holds the class against Model, call by call, in runs of calls that a told seed draws. */
public final class ModelTest {
    private static final int RUNS = 600;
    private static final int CALLS = 512;
    private static final int[] EDGES = {Integer.MIN_VALUE, -1, 0, 1, 20, 21, 24, 25, 99, 100, Integer.MAX_VALUE};

    private final Random random;
    private final FarthestPays x = new FarthestPays();
    private final Model model = new Model();
    private final int run;
    private int slowOnes = 0;

    private ModelTest(int run) {
        this.run = run;
        this.random = new Random(20261118L + run);
    }

    public static void main(String[] args) {
        int runs = args.length > 0 ? Integer.parseInt(args[0]) : RUNS;
        int from = args.length > 1 ? Integer.parseInt(args[1]) : 0;
        for (int run = from; run < from + runs; run++) {
            ModelTest test = new ModelTest(run);
            for (int call = 0; call < CALLS; call++) {
                test.oneCall(call);
            }
        }
        Due.finish("ModelTest");
    }

    private void due(String call, long got, long want) {
        Due.due("run " + run + " " + call, got, want);
    }

    private boolean chance(int percent) {
        return random.nextInt(100) < percent;
    }

    /** A number from .. to, now and then another one. */
    private int some(int from, int to) {
        if (chance(96)) {
            return from + random.nextInt(to - from + 1);
        }
        return chance(50) ? EDGES[random.nextInt(EDGES.length)] : from + random.nextInt(2 * (to - from) + 5) - 2;
    }

    private int aGuest() {
        return some(0, Math.max(0, x.count(0) - 1));
    }

    private int aWeight() {
        return chance(50) ? some(0, 3) : some(0, 99);
    }

    private void oneCall(int call) {
        // A run begins with nobody; then guests and a supper come, so that most calls find some.
        if (call == 20) {
            text(guestsText(), false);
            text(supperText(), true);
        }
        switch (random.nextInt(13)) {
            case 0: told(); break;
            case 1: case 2: first(); break;
            case 3: case 4: texts(); break;
            case 5: case 6: case 7: pays(); break;
            case 8: case 9: case 10: nights(); break;
            default: sheets();
        }
    }

    private void told() {
        for (int what = 0; what < 4; what++) {
            due("count " + what, x.count(what), model.count(what));
        }
        for (int g = 0; g < x.count(0); g++) {
            due("kind " + g, x.told(g, 0), model.told(g, 0));
            due("slip " + g, x.told(g, 1), model.told(g, 1));
        }
        for (int sum = 0; sum <= 20; sum++) {
            due("pay " + sum, x.pay(sum), model.pay(sum));
        }
    }

    private void first() {
        int a = aGuest();
        int sum = some(0, 20);
        int v = aWeight();
        switch (random.nextInt(8)) {
            case 0: due("weight " + sum + " " + v, x.weight(sum, v), model.weight(sum, v)); break;
            case 1: {
                int kind = some(0, 3);
                due("guest " + kind, x.guest(kind), model.guest(kind));
                break;
            }
            case 2: case 3: due("slip " + a + " " + sum, x.slip(a, sum), model.slip(a, sum)); break;
            case 4: due("write " + sum, x.write(sum), model.write(sum)); break;
            case 5: {
                int what = some(0, 1);
                due("told " + a + " " + what, x.told(a, what), model.told(a, what));
                break;
            }
            case 6: {
                int what = some(0, 1);
                int law = some(0, what == 0 ? 3 : 2);
                due("rule " + what + " " + law, x.rule(what, law), model.rule(what, law));
                break;
            }
            default: {
                int what = some(0, 3);
                due("count " + what, x.count(what), model.count(what));
            }
        }
    }

    private void texts() {
        if (chance(10)) {
            long w = random.nextLong() & (chance(50) ? 0x7f7f7f7f7f7f7f7fL : -1L);
            int n = some(1, 8);
            due("type " + w + " " + n, x.type(w, n), model.type(w, n));
        }
        if (chance(15)) {
            // Typed and not read yet, so that the tape fills up.
            typed(chance(50) ? supperText() : guestsText());
        }
        boolean isSupper = chance(60);
        // So rarely, that nights pile up between.
        if (isSupper || chance(20)) {
            text(spoiled(isSupper ? supperText() : guestsText()), isSupper);
        }
    }

    private void typed(String text) {
        for (int from = 0; from < text.length(); ) {
            int n = Math.min(text.length() - from, 1 + random.nextInt(8));
            long w = Due.bytes(text.substring(from, from + n));
            due("type " + w + " " + n, x.type(w, n), model.type(w, n));
            from += n;
        }
    }

    private void text(String text, boolean isSupper) {
        typed(text);
        if (isSupper) {
            due("supper " + text, x.supper(), model.supper());
        } else {
            due("guests " + text, x.guests(), model.guests());
        }
    }

    private String blank() {
        return chance(10) ? " " : "";
    }

    private String figures(int v) {
        return (chance(10) ? "00" : "") + v;
    }

    private String supperText() {
        StringBuilder text = new StringBuilder();
        int n = chance(90) ? 1 + random.nextInt(4) : 1 + random.nextInt(9);
        int sum = random.nextInt(8);
        for (int i = 0; i < n; i++) {
            text.append(i == 0 ? "" : ",").append(blank()).append(figures(sum)).append(blank()).append('x');
            text.append(blank()).append(figures(1 + random.nextInt(chance(50) ? 3 : 99))).append(blank());
            sum = chance(97) ? (sum + 1 + random.nextInt(3)) % (chance(98) ? 21 : 23) : sum;
        }
        return text.toString();
    }

    private String guestsText() {
        StringBuilder text = new StringBuilder();
        int n = chance(90) ? 1 + random.nextInt(6) : 1 + random.nextInt(10);
        for (int i = 0; i < n; i++) {
            char kind = "ssffnkk".charAt(random.nextInt(7));
            text.append(i == 0 ? "" : ";").append(blank()).append(kind).append(blank());
            if (kind != 'n' && chance(80)) {
                text.append(figures(random.nextInt(chance(98) ? 21 : 23))).append(blank());
            }
        }
        return text.toString();
    }

    /** The text with a sign changed, put in or taken out, now and then. */
    private String spoiled(String text) {
        if (chance(60)) {
            return text;
        }
        int place = random.nextInt(text.length() + 1);
        String signs = "0123456789xsfnk,; X-";
        String sign = chance(70) ? "" + signs.charAt(random.nextInt(signs.length())) : "";
        int from = Math.min(text.length(), place + random.nextInt(2));
        return text.substring(0, place) + sign + text.substring(from);
    }

    private void pays() {
        int a = aGuest();
        int part = some(0, 1);
        int sum = some(0, 20);
        switch (random.nextInt(8)) {
            case 0: due("pay " + sum, x.pay(sum), model.pay(sum)); break;
            case 1: due("pays " + a + " " + sum + " " + part, x.pays(a, sum, part), model.pays(a, sum, part)); break;
            case 2: case 3: case 4: due("mean " + a + " " + part, x.mean(a, part), model.mean(a, part)); break;
            case 5: due("best " + a, x.best(a), model.best(a)); break;
            case 6: due("still", x.still(), model.still()); break;
            default: {
                int n = chance(50) ? some(1, 3) : some(1, 40);
                due("turns " + n, x.turns(n), model.turns(n));
            }
        }
    }

    private void nights() {
        int a = aGuest();
        int what = some(0, 1);
        int sum = some(0, 20);
        int sums = chance(60) ? random.nextInt(1 << 21) & random.nextInt(1 << 21) : 1 << some(0, 22);
        switch (random.nextInt(16)) {
            case 0: case 1: due("host " + sums + " " + a, x.host(sums, a), model.host(sums, a)); break;
            case 2: due("choice " + sums, x.choice(sums), model.choice(sums)); break;
            case 3: case 4: due("night " + sum, x.night(sum), model.night(sum)); break;
            case 5: knowingNight(); break;
            case 6: due("knew", x.knew(), model.knew()); break;
            case 7: case 8: case 9:
                for (int g = 0; g < 9; g++) {
                    due("leagues " + g + " " + what, x.leagues(g, what), model.leagues(g, what));
                }
                break;
            case 10: due("forget", x.forget(), model.forget()); break;
            case 11: due("image", x.image(), model.image()); break;
            case 12: due("restore", x.restore(), model.restore()); break;
            case 13: due("leagues " + a + " " + what, x.leagues(a, what), model.leagues(a, what)); break;
            default: inLeague(a, aGuest(), aGuest(), what);
        }
    }

    /** A night for which one after the other wrote the sum. */
    private void knowingNight() {
        int sum = random.nextInt(21);
        for (int g = 0; g < x.count(0); g++) {
            if (chance(80)) {
                due("slip " + g + " " + sum, x.slip(g, sum), model.slip(g, sum));
            }
        }
        due("night " + sum, x.night(sum), model.night(sum));
        due("knew", x.knew(), model.knew());
    }

    private void inLeague(int a, int b, int c, int what) {
        if (slowOnes >= 8 || x.count(0) > 5 && slowOnes >= 2) {
            return;
        }
        slowOnes++;
        due("league " + a + " " + b + " " + c + " " + what, x.league(a, b, c, what), model.league(a, b, c, what));
        boolean refused = a == b || a == c || b == c;
        if (refused || run % 10 == 0 && slowOnes < 4 && x.count(1) <= 4) {
            due("shun " + a + " " + b + " " + c, x.shun(a, b, c), model.shun(a, b, c));
        }
    }

    private void sheets() {
        int sheet = some(0, 3);
        int lane = chance(90) ? sheet % 3 : some(0, 2);
        int from = chance(50) ? some(0, 3) : some(0, 24);
        switch (random.nextInt(9)) {
            case 0: {
                int n = chance(70) ? some(15, 24) : some(chance(80) ? 0 : -2, 24);
                due("sheet " + sheet + " " + lane + " " + n, x.sheet(sheet, lane, n), model.sheet(sheet, lane, n));
                break;
            }
            case 1:
                if (chance(30)) {
                    due("drop " + sheet, x.drop(sheet), model.drop(sheet));
                }
                break;
            case 2: case 3: case 4: {
                long v = chance(90) ? random.nextInt(100) : random.nextLong() >> random.nextInt(64);
                v += chance(20) ? 1L << 16 * (1 + random.nextInt(3)) : 0;
                due("item " + sheet + " " + lane + " " + from + " " + v,
                    x.item(sheet, lane, from, v), model.item(sheet, lane, from, v));
                break;
            }
            case 5:
                due("film " + sheet + " " + lane + " " + from, x.film(sheet, lane, from), model.film(sheet, lane, from));
                break;
            default: {
                int a = aGuest();
                int n = chance(50) ? some(1, 4) : some(1, 21);
                int part = some(0, 1);
                due("mixed " + a + " " + sheet + " " + lane + " " + from + " " + n + " " + part,
                    x.mixed(a, sheet, lane, from, n, part), model.mixed(a, sheet, lane, from, n, part));
            }
        }
    }
}
