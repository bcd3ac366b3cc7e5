import java.util.ArrayList;
import java.util.Collections;
import java.util.Comparator;
import java.util.List;

/**
 * The document once more, in the plainest form and in another way than the class itself: fractions as they are told,
 * guests sorted, texts walked by states. ModelTest holds the class against it.
 */
final class Model {
    private static final class Guest {
        final int number;
        final int kind;
        int slip;

        Guest(int number, int kind, int slip) {
            this.number = number;
            this.kind = kind;
            this.slip = slip;
        }

        Guest copy() {
            return new Guest(number, kind, slip);
        }
    }

    private static final class Night {
        final int sum;
        final List<Guest> guests;
        final int who;
        final int ties;

        Night(int sum, List<Guest> guests, int who, int ties) {
            this.sum = sum;
            this.guests = guests;
            this.who = who;
            this.ties = ties;
        }
    }

    private static final class State {
        int[] weights = new int[21];
        List<Guest> guests = new ArrayList<>();
        int who;
        int ties;
        List<Night> nights = new ArrayList<>();

        State copy() {
            State other = new State();
            other.weights = weights.clone();
            other.guests = copies(guests);
            other.who = who;
            other.ties = ties;
            other.nights = new ArrayList<>(nights);
            return other;
        }
    }

    /** top by below, in lowest terms. */
    private record Part(long top, long below) {
        Part plus(Part p) {
            return lowest(top * p.below + p.top * below, below * p.below);
        }

        Part times(long n, long by) {
            return lowest(top * n, below * by);
        }

        int against(Part p) {
            return Long.compare(top * p.below, p.top * below);
        }

        long told(int part) {
            return part == 0 ? top : below;
        }

        static Part lowest(long top, long below) {
            long g = java.math.BigInteger.valueOf(top).gcd(java.math.BigInteger.valueOf(below)).longValue();
            return new Part(top / g, below / g);
        }
    }

    private State s = new State();
    private State image = null;
    private String tape = "";
    private final long[][] sheets = new long[4][];
    private final int[] lanes = new int[4];

    private static List<Guest> copies(List<Guest> guests) {
        List<Guest> all = new ArrayList<>();
        for (Guest g : guests) {
            all.add(g.copy());
        }
        return all;
    }

    private static boolean in(long v, long from, long to) {
        return from <= v && v <= to;
    }

    private boolean isGuest(int... guests) {
        for (int g : guests) {
            if (!in(g, 0, s.guests.size() - 1)) {
                return false;
            }
        }
        return true;
    }

    private int all() {
        int all = 0;
        for (int w : s.weights) {
            all += w;
        }
        return all;
    }

    // ---- 1

    int weight(int sum, int v) {
        if (!in(sum, 0, 20) || !in(v, 0, 99)) {
            return -1;
        }
        int was = s.weights[sum];
        s.weights[sum] = v;
        return was;
    }

    int guest(int kind) {
        if (!in(kind, 0, 3)) {
            return -1;
        }
        if (s.guests.size() == 9) {
            return -3;
        }
        s.guests.add(new Guest(s.guests.size(), kind, 0));
        return s.guests.size() - 1;
    }

    int slip(int guest, int sum) {
        if (!isGuest(guest) || !in(sum, 0, 20)) {
            return -1;
        }
        Guest g = s.guests.get(guest);
        if (g.kind == 2 && sum != 0) {
            return -2;
        }
        int was = g.slip;
        g.slip = sum;
        return was;
    }

    int write(int sum) {
        if (!in(sum, 0, 20)) {
            return -1;
        }
        if (all() == 0) {
            return -2;
        }
        int weighed = 0;
        for (int i = 0; i <= 20; i++) {
            weighed += i * s.weights[i];
        }
        int changed = 0;
        for (Guest g : s.guests) {
            int[] by = {g.slip, weighed / all(), 0, sum};
            changed += by[g.kind] == g.slip ? 0 : 1;
            g.slip = by[g.kind];
        }
        return changed;
    }

    int told(int guest, int what) {
        if (!isGuest(guest) || !in(what, 0, 1)) {
            return -1;
        }
        return what == 0 ? s.guests.get(guest).kind : s.guests.get(guest).slip;
    }

    int rule(int what, int v) {
        if (!in(what, 0, 1) || !in(v, 0, what == 0 ? 3 : 2)) {
            return -1;
        }
        int was = what == 0 ? s.who : s.ties;
        if (what == 0) {
            s.who = v;
        } else {
            s.ties = v;
        }
        return was;
    }

    int type(long w, int n) {
        if (!in(n, 1, 8)) {
            return -1;
        }
        String text = "";
        for (int i = n - 1; i >= 0; i--) {
            long b = (w >> (8 * i)) & 0xFF;
            if (b < 32 || b > 126) {
                return -1;
            }
            text += (char) b;
        }
        if (tape.length() + n > 80) {
            return -3;
        }
        tape += text;
        return tape.length();
    }

    /** The pieces of a text, each as its place and its signs; a last empty one at the end. */
    private static List<String[]> pieces(String text) {
        List<String[]> pieces = new ArrayList<>();
        int i = 0;
        while (i < text.length()) {
            int j = i + 1;
            if (Character.isDigit(text.charAt(i))) {
                while (j < text.length() && Character.isDigit(text.charAt(j))) {
                    j++;
                }
            }
            if (text.charAt(i) != ' ') {
                pieces.add(new String[] {"" + i, text.substring(i, j)});
            }
            i = j;
        }
        pieces.add(new String[] {"" + text.length(), ""});
        return pieces;
    }

    private static int number(String piece, int from, int to) {
        if (!piece.matches("[0-9]+")) {
            return -1;
        }
        java.math.BigInteger v = new java.math.BigInteger(piece);
        boolean may = v.compareTo(java.math.BigInteger.valueOf(from)) >= 0
            && v.compareTo(java.math.BigInteger.valueOf(to)) <= 0;
        return may ? v.intValue() : -1;
    }

    int supper() {
        int[] weights = new int[21];
        int state = 0;
        int dishes = 0;
        int sum = 0;
        String text = tape;
        tape = "";
        for (String[] piece : pieces(text)) {
            String p = piece[1];
            boolean may;
            switch (state) {
                case 0:
                    sum = number(p, 0, 20);
                    may = sum >= 0 && weights[sum] == 0;
                    break;
                case 1:
                    may = p.equals("x");
                    break;
                case 2:
                    may = number(p, 1, 99) > 0;
                    if (may) {
                        weights[sum] = number(p, 1, 99);
                        dishes++;
                    }
                    break;
                default:
                    may = p.isEmpty() || p.equals(",") && dishes < 8;
            }
            if (!may) {
                return -20 - Integer.parseInt(piece[0]);
            }
            state = (state + 1) % 4;
        }
        s.weights = weights;
        return all();
    }

    int guests() {
        List<Guest> guests = new ArrayList<>();
        String text = tape;
        tape = "";
        // 0: a kind is due; 1: a number, a sign between or the end; 2: a sign between or the end.
        int state = 0;
        for (String[] piece : pieces(text)) {
            String p = piece[1];
            Guest last = guests.isEmpty() ? null : guests.get(guests.size() - 1);
            if (state == 0 && p.length() == 1 && "sfnk".contains(p)) {
                guests.add(new Guest(guests.size(), "sfnk".indexOf(p), 0));
                state = p.equals("n") ? 2 : 1;
            } else if (state == 1 && number(p, 0, 20) >= 0) {
                last.slip = number(p, 0, 20);
                state = 2;
            } else if (state != 0 && p.equals(";") && guests.size() < 9) {
                state = 0;
            } else if (state == 0 || !p.isEmpty()) {
                return -20 - Integer.parseInt(piece[0]);
            }
        }
        s.guests = guests;
        s.nights = new ArrayList<>();
        return guests.size();
    }

    int count(int what) {
        int sums = 0;
        for (int w : s.weights) {
            sums += w > 0 ? 1 : 0;
        }
        int[] counts = {s.guests.size(), sums, all(), s.nights.size()};
        return in(what, 0, 3) ? counts[what] : -1;
    }

    // ---- 2

    /** The share of each guest, by numbers. */
    private static Part[] judged(List<Guest> guests, int who, int ties, int sum) {
        Part[] shares = new Part[guests.size()];
        java.util.Arrays.fill(shares, new Part(0, 1));
        List<Guest> asked = new ArrayList<>(guests);
        if (who == 3 && guests.size() > 1) {
            List<Guest> ordered = new ArrayList<>(guests);
            ordered.sort(Comparator.comparingInt((Guest g) -> g.slip).thenComparingInt(g -> g.number));
            asked.remove(ordered.get((guests.size() - 1) / 2));
        }
        if (asked.isEmpty()) {
            return shares;
        }
        // The one who pays first stands first: by ties 2 the last by numbers.
        if (ties == 2) {
            Collections.reverse(asked);
        }
        Comparator<Guest> byOff = Comparator.comparingInt(g -> Math.abs(g.slip - sum));
        asked.sort(who == 1 ? byOff : byOff.reversed());
        Guest first = asked.get(0);
        if (who == 2) {
            shares[first.number] = new Part(1, 1);
            if (asked.size() > 1) {
                shares[first.number] = new Part(1, 2);
                shares[asked.get(1).number] = new Part(1, 2);
            }
            return shares;
        }
        List<Guest> like = new ArrayList<>();
        for (Guest g : asked) {
            if (byOff.compare(g, first) == 0) {
                like.add(g);
            }
        }
        if (ties == 1) {
            for (Guest g : like) {
                shares[g.number] = new Part(1, like.size());
            }
        } else {
            shares[first.number] = new Part(1, 1);
        }
        return shares;
    }

    private Part paid(int guest, int sum) {
        return judged(s.guests, s.who, s.ties, sum)[guest].times(sum, 1);
    }

    private static int payers(List<Guest> guests, int who, int ties, int sum) {
        Part[] shares = judged(guests, who, ties, sum);
        int set = 0;
        for (int g = 0; g < shares.length; g++) {
            set += shares[g].top > 0 ? 1 << g : 0;
        }
        return set;
    }

    private Part mean(int guest) {
        Part mean = new Part(0, 1);
        for (int sum = 0; sum <= 20; sum++) {
            if (s.weights[sum] > 0) {
                mean = mean.plus(paid(guest, sum).times(s.weights[sum], all()));
            }
        }
        return mean;
    }

    private Part meanBy(int guest, int slip) {
        int was = s.guests.get(guest).slip;
        s.guests.get(guest).slip = slip;
        Part mean = mean(guest);
        s.guests.get(guest).slip = was;
        return mean;
    }

    int pay(int sum) {
        if (!in(sum, 0, 20)) {
            return -1;
        }
        return s.guests.isEmpty() ? -4 : payers(s.guests, s.who, s.ties, sum);
    }

    int pays(int guest, int sum, int part) {
        if (!isGuest(guest) || !in(sum, 0, 20) || !in(part, 0, 1)) {
            return -1;
        }
        return (int) paid(guest, sum).told(part);
    }

    long mean(int guest, int part) {
        if (!isGuest(guest) || !in(part, 0, 1)) {
            return -1;
        }
        return all() == 0 ? -2 : mean(guest).told(part);
    }

    int best(int guest) {
        if (!isGuest(guest)) {
            return -1;
        }
        if (all() == 0) {
            return -2;
        }
        int best = 0;
        for (int slip = 20; slip >= 0; slip--) {
            if (meanBy(guest, slip).against(meanBy(guest, best)) <= 0) {
                best = slip;
            }
        }
        return best;
    }

    int still() {
        if (all() == 0) {
            return -2;
        }
        for (Guest g : s.guests) {
            for (int slip = 0; slip <= 20 && g.kind != 2; slip++) {
                if (meanBy(g.number, slip).against(mean(g.number)) < 0) {
                    return 0;
                }
            }
        }
        return 1;
    }

    int turns(int n) {
        if (!in(n, 1, 40)) {
            return -1;
        }
        if (all() == 0) {
            return -2;
        }
        int changed = 0;
        int kept = 0;
        for (int turn = 0; turn < n; turn++) {
            if (kept == s.guests.size()) {
                break;
            }
            Guest g = s.guests.get(turn % s.guests.size());
            int best = best(g.number);
            if (g.kind != 2 && meanBy(g.number, best).against(mean(g.number)) < 0) {
                g.slip = best;
                changed++;
                kept = 0;
            } else {
                kept++;
            }
        }
        return changed;
    }

    // ---- 3

    private int[] pair(int a, int b, int c) {
        int wasA = s.guests.get(a).slip;
        int wasB = s.guests.get(b).slip;
        int[] pair = {0, 0};
        Part most = null;
        for (int i = 0; i <= 20; i++) {
            for (int j = 0; j <= 20; j++) {
                s.guests.get(a).slip = i;
                s.guests.get(b).slip = j;
                Part mean = mean(c);
                if (most == null || mean.against(most) > 0) {
                    most = mean;
                    pair = new int[] {i, j};
                }
            }
        }
        s.guests.get(a).slip = wasA;
        s.guests.get(b).slip = wasB;
        return pair;
    }

    private boolean areUnlike(int a, int b, int c) {
        return isGuest(a, b, c) && a != b && b != c && a != c;
    }

    int league(int a, int b, int c, int what) {
        if (!areUnlike(a, b, c) || !in(what, 0, 1)) {
            return -1;
        }
        return all() == 0 ? -2 : pair(a, b, c)[what];
    }

    int shun(int a, int b, int c) {
        if (!areUnlike(a, b, c)) {
            return -1;
        }
        if (all() == 0) {
            return -2;
        }
        State was = s.copy();
        int shun = -1;
        Part least = null;
        for (int slip = 0; slip <= 20; slip++) {
            s = was.copy();
            s.guests.get(c).slip = slip;
            int[] pair = pair(a, b, c);
            s.guests.get(a).slip = pair[0];
            s.guests.get(b).slip = pair[1];
            Part mean = mean(c);
            if (least == null || mean.against(least) < 0) {
                least = mean;
                shun = slip;
            }
        }
        s = was;
        return shun;
    }

    int host(int sums, int guest) {
        if (!in(sums, 1, (1 << 21) - 1) || !isGuest(guest)) {
            return -1;
        }
        int host = -1;
        for (int sum = 20; sum >= 0; sum--) {
            boolean told = (sums & 1 << sum) != 0;
            if (told && (host < 0 || paid(guest, sum).against(paid(guest, host)) >= 0)) {
                host = sum;
            }
        }
        return host;
    }

    int choice(int sums) {
        if (!in(sums, 1, (1 << 21) - 1)) {
            return -1;
        }
        int choice = 0;
        for (Guest g : s.guests) {
            boolean some = false;
            for (int sum = 0; sum <= 20; sum++) {
                some |= (sums & 1 << sum) != 0 && paid(g.number, sum).top > 0;
            }
            choice += some ? 1 : 0;
        }
        return choice;
    }

    int night(int sum) {
        if (!in(sum, 0, 20)) {
            return -1;
        }
        if (s.nights.size() == 12) {
            return -3;
        }
        if (s.guests.isEmpty()) {
            return -2;
        }
        s.nights.add(new Night(sum, copies(s.guests), s.who, s.ties));
        return s.nights.size() - 1;
    }

    int knew() {
        int knew = 0;
        for (Guest g : s.guests) {
            boolean always = !s.nights.isEmpty();
            for (Night n : s.nights) {
                always &= g.number < n.guests.size() && n.guests.get(g.number).slip == n.sum;
            }
            knew += always ? 1 << g.number : 0;
        }
        return knew;
    }

    int leagues(int guest, int what) {
        if (!isGuest(guest) || !in(what, 0, 1)) {
            return -1;
        }
        List<Integer> pairs = new ArrayList<>();
        for (int a = 0; a < s.guests.size(); a++) {
            for (int b = a + 1; b < s.guests.size(); b++) {
                boolean always = !s.nights.isEmpty() && a != guest && b != guest;
                for (Night n : s.nights) {
                    always = always && isAgainst(n, guest, a, b);
                }
                if (always) {
                    pairs.add(10 * a + b);
                }
            }
        }
        if (what == 0) {
            return pairs.size();
        }
        return pairs.isEmpty() ? -4 : pairs.get(0);
    }

    private static boolean isAgainst(Night n, int guest, int a, int b) {
        if (Math.max(guest, b) >= n.guests.size() || (payers(n.guests, n.who, n.ties, n.sum) >> guest & 1) == 0) {
            return false;
        }
        int his = n.guests.get(guest).slip;
        int low = Math.min(n.guests.get(a).slip, n.guests.get(b).slip);
        int high = Math.max(n.guests.get(a).slip, n.guests.get(b).slip);
        return low < his && his < high;
    }

    int forget() {
        int was = s.nights.size();
        s.nights = new ArrayList<>();
        return was;
    }

    int image() {
        image = s.copy();
        return 1;
    }

    int restore() {
        if (image == null) {
            return -4;
        }
        s = image.copy();
        return 1;
    }

    // ---- 4

    /** What the machine finds, behind BAD, when items from .. to - 1 are used; 0 if nothing. */
    private int found(int sheet, int lane, long from, long to) {
        if (sheets[sheet] == null) {
            return -11;
        }
        if (lanes[sheet] != lane) {
            return -12;
        }
        return from < 0 || to > sheets[sheet].length ? -13 : 0;
    }

    long mixed(int guest, int sheet, int lane, int from, int n, int part) {
        if (!isGuest(guest) || !in(sheet, 0, 3) || !in(lane, 0, 2) || !in(n, 1, 21) || !in(part, 0, 1)) {
            return -1;
        }
        int found = found(sheet, lane, from, (long) from + n);
        if (found != 0) {
            return found;
        }
        long total = 0;
        for (int i = 0; i < n; i++) {
            if (!in(sheets[sheet][from + i], 0, 99)) {
                return -2;
            }
            total += sheets[sheet][from + i];
        }
        if (total == 0 || all() == 0) {
            return -2;
        }
        Part mean = new Part(0, 1);
        for (int i = 0; i < n; i++) {
            mean = mean.plus(meanBy(guest, i).times(sheets[sheet][from + i], total));
        }
        return mean.told(part);
    }

    int sheet(int sheet, int lane, int n) {
        if (!in(sheet, 0, 3) || !in(lane, 0, 2) || n > 24) {
            return -1;
        }
        if (n < 0) {
            return -14;
        }
        sheets[sheet] = new long[n];
        lanes[sheet] = lane;
        return n;
    }

    int drop(int sheet) {
        if (!in(sheet, 0, 3)) {
            return -1;
        }
        if (sheets[sheet] == null) {
            return -11;
        }
        int was = sheets[sheet].length;
        sheets[sheet] = null;
        return was;
    }

    private void put(int sheet, int i, long v) {
        int bits = new int[] {16, 32, 64}[lanes[sheet]];
        sheets[sheet][i] = v << (64 - bits) >> (64 - bits);
    }

    int item(int sheet, int lane, int i, long v) {
        if (!in(sheet, 0, 3) || !in(lane, 0, 2)) {
            return -1;
        }
        int found = found(sheet, lane, i, i + 1L);
        if (found != 0) {
            return found;
        }
        put(sheet, i, v);
        return 1;
    }

    int film(int sheet, int lane, int from) {
        if (!in(sheet, 0, 3) || !in(lane, 0, 2)) {
            return -1;
        }
        int found = found(sheet, lane, from, (long) from + s.guests.size());
        if (found != 0) {
            return found;
        }
        for (Guest g : s.guests) {
            put(sheet, from + g.number, g.slip);
        }
        return s.guests.size();
    }
}
