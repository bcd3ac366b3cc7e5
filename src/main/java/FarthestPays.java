/**
 * Guests each write down, unseen, what a supper will come to; whoever is farthest off pays it all.
 * The numbered promises of the document say what each call answers.
 */
public final class FarthestPays {
    public static final int BAD = -1, NOT = -2, FULL = -3, NONE = -4, NULL = -11, CAST = -12, INDEX = -13, SIZE = -14;

    private static final int SUMS = 21;
    private static final int ALL_SUMS = (1 << SUMS) - 1;
    private static final int MOST_WEIGHT = 99;
    private static final int MOST_GUESTS = 9;
    private static final int MOST_NIGHTS = 12;
    private static final int MOST_BYTES = 80;
    private static final int MOST_DISHES = 8;
    private static final int MOST_TURNS = 40;
    private static final int SHEETS = 4;
    private static final int MOST_ITEMS = 24;

    private static final int SHREWD = 0, FOOL = 1, NOUGHT = 2, KNOWING = 3;
    private static final int NEAREST = 1, FARTHEST_TWO = 2, MIDDLE_FREE = 3;
    private static final int FIRST = 0, ALL_SHARE = 1, LAST = 2;
    private static final int SHORTS = 0, INTS = 1, LONGS = 2;

    /** All of a sum, told in parts that 1 to 9 guests can share evenly. */
    private static final int WHOLE = 2520;
    private static final int NOBODY = -1;
    /** More steps than the search for a common divisor of two longs can take. */
    private static final int MOST_STEPS = 200;

    private final Table now = new Table();
    private final Table kept = new Table();
    private boolean hasImage = false;
    private final Tape tape = new Tape();
    private final Supper readSupper = new Supper();
    private final Company readCompany = new Company();
    private final Sheet[] sheets = new Sheet[SHEETS];

    public FarthestPays() {
        for (int i = 0; i < SHEETS; i++) {
            sheets[i] = new Sheet();
        }
    }

    // ---- 1 suppers, guests

    public int weight(int sum, int v) {
        if (!isSum(sum) || v < 0 || v > MOST_WEIGHT) {
            return BAD;
        }
        int before = now.supper.weightOf(sum);
        now.supper.putWeight(sum, v);
        return before;
    }

    public int guest(int kind) {
        if (kind < SHREWD || kind > KNOWING) {
            return BAD;
        }
        if (now.company.size() >= MOST_GUESTS) {
            return FULL;
        }
        now.company.seat(kind, 0);
        return now.company.size() - 1;
    }

    public int slip(int guest, int sum) {
        if (!now.company.has(guest) || !isSum(sum)) {
            return BAD;
        }
        if (now.company.isNought(guest) && sum != 0) {
            return NOT;
        }
        int before = now.company.slipOf(guest);
        now.company.putSlip(guest, sum);
        return before;
    }

    public int write(int sum) {
        if (!isSum(sum)) {
            return BAD;
        }
        if (now.supper.together() == 0) {
            return NOT;
        }
        return now.company.writeAlone(sum, now.supper.meanSum());
    }

    public int told(int guest, int what) {
        if (!now.company.has(guest) || what < 0 || what > 1) {
            return BAD;
        }
        return what == 0 ? now.company.kindOf(guest) : now.company.slipOf(guest);
    }

    public int rule(int what, int v) {
        if (what == 0 && v >= 0 && v <= MIDDLE_FREE) {
            return now.company.changeWho(v);
        }
        if (what == 1 && v >= FIRST && v <= LAST) {
            return now.company.changeTies(v);
        }
        return BAD;
    }

    public int type(long w, int n) {
        if (n < 1 || n > 8 || !isPrintable(w, n)) {
            return BAD;
        }
        if (tape.size() > MOST_BYTES - n) {
            return FULL;
        }
        for (int i = n - 1; i >= 0; i--) {
            tape.append(byteOf(w, i));
        }
        return tape.size();
    }

    public int supper() {
        int fault = tape.takeSupper(readSupper);
        if (fault != 0) {
            return fault;
        }
        now.supper.copyFrom(readSupper);
        return now.supper.together();
    }

    public int guests() {
        int fault = tape.takeGuests(readCompany);
        if (fault != 0) {
            return fault;
        }
        now.company.seatAll(readCompany);
        now.nights.clear();
        return now.company.size();
    }

    public int count(int what) {
        switch (what) {
            case 0: return now.company.size();
            case 1: return now.supper.sumsOfWeight();
            case 2: return now.supper.together();
            case 3: return now.nights.size();
            default: return BAD;
        }
    }

    // ---- 2 who pays

    public int pay(int sum) {
        if (!isSum(sum)) {
            return BAD;
        }
        if (now.company.size() == 0) {
            return NONE;
        }
        return now.company.payers(sum);
    }

    public int pays(int guest, int sum, int part) {
        if (!now.company.has(guest) || !isSum(sum) || !isPart(part)) {
            return BAD;
        }
        return (int) lowest(now.company.due(guest, sum), WHOLE, part);
    }

    public long mean(int guest, int part) {
        if (!now.company.has(guest) || !isPart(part)) {
            return BAD;
        }
        int together = now.supper.together();
        if (together == 0) {
            return NOT;
        }
        return lowest(now.burden(guest), (long) WHOLE * together, part);
    }

    public int best(int guest) {
        if (!now.company.has(guest)) {
            return BAD;
        }
        return now.supper.together() == 0 ? NOT : now.lightestSlip(guest);
    }

    public int still() {
        if (now.supper.together() == 0) {
            return NOT;
        }
        return now.nobodyWouldChange() ? 1 : 0;
    }

    public int turns(int n) {
        if (n < 1 || n > MOST_TURNS) {
            return BAD;
        }
        return now.supper.together() == 0 ? NOT : now.takeTurns(n);
    }

    // ---- 3 leagues, the host, nights

    public int league(int a, int b, int c, int what) {
        if (!areThree(a, b, c) || what < 0 || what > 1) {
            return BAD;
        }
        if (now.supper.together() == 0) {
            return NOT;
        }
        int pair = now.hardestPair(a, b, c, now.wholeBurden());
        return what == 0 ? pair / SUMS : pair % SUMS;
    }

    public int shun(int a, int b, int c) {
        if (!areThree(a, b, c)) {
            return BAD;
        }
        return now.supper.together() == 0 ? NOT : now.safestSlip(a, b, c);
    }

    public int host(int sums, int guest) {
        if (!isSetOfSums(sums) || !now.company.has(guest)) {
            return BAD;
        }
        int dearest = NOBODY;
        int most = -1;
        for (int sum = 0; sum < SUMS; sum++) {
            if ((sums >> sum & 1) == 1 && now.company.due(guest, sum) > most) {
                dearest = sum;
                most = now.company.due(guest, sum);
            }
        }
        return dearest;
    }

    public int choice(int sums) {
        if (!isSetOfSums(sums)) {
            return BAD;
        }
        int payers = 0;
        // Nobody pays more than 0 of the sum 0.
        for (int sum = 1; sum < SUMS; sum++) {
            if ((sums >> sum & 1) == 1) {
                payers |= now.company.payers(sum);
            }
        }
        return Integer.bitCount(payers);
    }

    public int night(int sum) {
        if (!isSum(sum)) {
            return BAD;
        }
        if (now.nights.size() >= MOST_NIGHTS) {
            return FULL;
        }
        if (now.company.size() == 0) {
            return NOT;
        }
        now.nights.append(sum, now.company);
        return now.nights.size() - 1;
    }

    public int knew() {
        return now.nights.knowers();
    }

    public int leagues(int guest, int what) {
        if (!now.company.has(guest) || what < 0 || what > 1) {
            return BAD;
        }
        if (what == 0) {
            return now.nights.pairsAgainst(guest);
        }
        int first = now.nights.firstPairAgainst(guest);
        return first < 0 ? NONE : first;
    }

    public int forget() {
        int before = now.nights.size();
        now.nights.clear();
        return before;
    }

    public int image() {
        kept.copyFrom(now);
        hasImage = true;
        return 1;
    }

    public int restore() {
        if (!hasImage) {
            return NONE;
        }
        now.copyFrom(kept);
        return 1;
    }

    // ---- 4 sheets 0 .. 3

    public long mixed(int guest, int sheet, int lane, int from, int n, int part) {
        if (!now.company.has(guest) || !isSheet(sheet) || !isLane(lane) || n < 1 || n > SUMS || !isPart(part)) {
            return BAD;
        }
        Sheet row = sheets[sheet];
        int refusal = row.refusal(lane, from, n);
        if (refusal != 0) {
            return refusal;
        }
        long all = row.weightsTogether(from, n);
        int together = now.supper.together();
        if (all <= 0 || together == 0) {
            return NOT;
        }
        long top = 0;
        for (int sum = 0; sum < n; sum++) {
            long weight = row.itemAt(from + sum);
            if (weight > 0) {
                top += weight * now.burdenBy(guest, sum);
            }
        }
        return lowest(top, all * together * WHOLE, part);
    }

    public int sheet(int sheet, int lane, int n) {
        if (!isSheet(sheet) || !isLane(lane) || n > MOST_ITEMS) {
            return BAD;
        }
        if (n < 0) {
            return SIZE;
        }
        sheets[sheet].begin(lane, n);
        return n;
    }

    public int drop(int sheet) {
        if (!isSheet(sheet)) {
            return BAD;
        }
        Sheet row = sheets[sheet];
        if (row.isMissing()) {
            return NULL;
        }
        int before = row.size();
        row.end();
        return before;
    }

    public int item(int sheet, int lane, int i, long v) {
        if (!isSheet(sheet) || !isLane(lane)) {
            return BAD;
        }
        int refusal = sheets[sheet].refusal(lane, i, 1);
        if (refusal != 0) {
            return refusal;
        }
        sheets[sheet].put(i, v);
        return 1;
    }

    public int film(int sheet, int lane, int from) {
        if (!isSheet(sheet) || !isLane(lane)) {
            return BAD;
        }
        int size = now.company.size();
        int refusal = sheets[sheet].refusal(lane, from, size);
        if (refusal != 0) {
            return refusal;
        }
        for (int guest = 0; guest < size; guest++) {
            sheets[sheet].put(from + guest, now.company.slipOf(guest));
        }
        return size;
    }

    // ---- what numbers name

    private static boolean isSum(int sum) {
        return sum >= 0 && sum < SUMS;
    }

    private static boolean isSetOfSums(int sums) {
        return sums != 0 && (sums & ~ALL_SUMS) == 0;
    }

    private static boolean isPart(int part) {
        return part == 0 || part == 1;
    }

    private static boolean isSheet(int sheet) {
        return sheet >= 0 && sheet < SHEETS;
    }

    private static boolean isLane(int lane) {
        return lane >= SHORTS && lane <= LONGS;
    }

    private boolean areThree(int a, int b, int c) {
        return now.company.has(a) && now.company.has(b) && now.company.has(c) && a != b && a != c && b != c;
    }

    private static int byteOf(long w, int place) {
        return (int) (w >>> 8 * place) & 255;
    }

    private static boolean isPrintable(long w, int n) {
        for (int i = 0; i < n; i++) {
            int b = byteOf(w, i);
            if (b < 32 || b > 126) {
                return false;
            }
        }
        return true;
    }

    /** A part of a fraction in lowest terms; top is not below 0, below is above 0. */
    private static long lowest(long top, long below, int part) {
        long common = below;
        long rest = top;
        for (int step = 0; step < MOST_STEPS && rest != 0; step++) {
            long next = common % rest;
            common = rest;
            rest = next;
        }
        if (common <= 0) {
            return 0;
        }
        return part == 0 ? top / common : below / common;
    }

    /** What each sum weighs. */
    private static final class Supper {
        private final int[] weights = new int[SUMS];

        int weightOf(int sum) {
            return isSum(sum) ? weights[sum] : 0;
        }

        void putWeight(int sum, int weight) {
            if (isSum(sum)) {
                weights[sum] = weight;
            }
        }

        void clear() {
            for (int sum = 0; sum < SUMS; sum++) {
                weights[sum] = 0;
            }
        }

        void copyFrom(Supper other) {
            System.arraycopy(other.weights, 0, weights, 0, SUMS);
        }

        int together() {
            int together = 0;
            for (int sum = 0; sum < SUMS; sum++) {
                together += weights[sum];
            }
            return together;
        }

        int sumsOfWeight() {
            int sums = 0;
            for (int sum = 0; sum < SUMS; sum++) {
                if (weights[sum] > 0) {
                    sums++;
                }
            }
            return sums;
        }

        /** The sums times their weights, together. */
        int weighed() {
            int weighed = 0;
            for (int sum = 0; sum < SUMS; sum++) {
                weighed += sum * weights[sum];
            }
            return weighed;
        }

        int meanSum() {
            int together = together();
            return together == 0 ? 0 : weighed() / together;
        }
    }

    /** Guests with their slips, and the laws by which they are judged. */
    private static final class Company {
        private final int[] kinds = new int[MOST_GUESTS];
        private final int[] slips = new int[MOST_GUESTS];
        private int size = 0;
        private int who = 0;
        private int ties = FIRST;

        int size() {
            return size;
        }

        boolean has(int guest) {
            return guest >= 0 && guest < size;
        }

        int kindOf(int guest) {
            return has(guest) ? kinds[guest] : SHREWD;
        }

        boolean isNought(int guest) {
            return kindOf(guest) == NOUGHT;
        }

        int slipOf(int guest) {
            return has(guest) ? slips[guest] : 0;
        }

        void putSlip(int guest, int sum) {
            if (has(guest)) {
                slips[guest] = sum;
            }
        }

        void seat(int kind, int slip) {
            if (size < MOST_GUESTS) {
                kinds[size] = kind;
                slips[size] = slip;
                size++;
            }
        }

        void clear() {
            size = 0;
        }

        int changeWho(int law) {
            int before = who;
            who = law;
            return before;
        }

        int changeTies(int law) {
            int before = ties;
            ties = law;
            return before;
        }

        /** Takes the other's guests in place of those told; the laws stay. */
        void seatAll(Company other) {
            System.arraycopy(other.kinds, 0, kinds, 0, MOST_GUESTS);
            System.arraycopy(other.slips, 0, slips, 0, MOST_GUESTS);
            size = other.size;
        }

        void copyFrom(Company other) {
            seatAll(other);
            who = other.who;
            ties = other.ties;
        }

        /** Each writes what he would by himself: how many slips change. */
        int writeAlone(int sum, int meanSum) {
            int changed = 0;
            for (int guest = 0; guest < size; guest++) {
                int slip = slipAlone(guest, sum, meanSum);
                if (slip != slips[guest]) {
                    slips[guest] = slip;
                    changed++;
                }
            }
            return changed;
        }

        private int slipAlone(int guest, int sum, int meanSum) {
            switch (kindOf(guest)) {
                case FOOL: return meanSum;
                case NOUGHT: return 0;
                case KNOWING: return sum;
                default: return slipOf(guest);
            }
        }

        /** What a guest pays for a sum, in parts of WHOLE. */
        int due(int guest, int sum) {
            return sum * share(guest, sum, freeGuest());
        }

        int payers(int sum) {
            int free = freeGuest();
            int payers = 0;
            for (int guest = 0; guest < size; guest++) {
                if (share(guest, sum, free) > 0) {
                    payers |= 1 << guest;
                }
            }
            return payers;
        }

        /** He whom the laws let go free for every sum, or nobody: it hangs on the slips alone. */
        int freeGuest() {
            if (who != MIDDLE_FREE || size < 2) {
                return NOBODY;
            }
            int middle = (size - 1) / 2;
            for (int guest = 0; guest < size; guest++) {
                if (placeOf(guest) == middle) {
                    return guest;
                }
            }
            return NOBODY;
        }

        private int placeOf(int guest) {
            int mine = slips[guest];
            int place = 0;
            for (int other = 0; other < size; other++) {
                if (slips[other] < mine || slips[other] == mine && other < guest) {
                    place++;
                }
            }
            return place;
        }

        /** The share that a guest pays of a sum, in parts of WHOLE; free is what freeGuest() tells. */
        int share(int guest, int sum, int free) {
            if (!has(guest) || guest == free) {
                return 0;
            }
            return who == FARTHEST_TWO ? shareOfTwo(guest, sum) : shareOfMost(guest, sum, free);
        }

        private int shareOfTwo(int guest, int sum) {
            int mine = Math.abs(slips[guest] - sum);
            int ahead = 0;
            for (int other = 0; other < size; other++) {
                int theirs = Math.abs(slips[other] - sum);
                boolean earlier = ties == LAST ? other > guest : other < guest;
                if (theirs > mine || theirs == mine && earlier) {
                    ahead++;
                }
            }
            if (ahead > 1) {
                return 0;
            }
            return size == 1 ? WHOLE : WHOLE / 2;
        }

        private int shareOfMost(int guest, int sum, int free) {
            int mine = Math.abs(slips[guest] - sum);
            int alike = 1;
            for (int other = 0; other < size; other++) {
                if (other == guest || other == free) {
                    continue;
                }
                int theirs = Math.abs(slips[other] - sum);
                if (who == NEAREST ? theirs < mine : theirs > mine) {
                    return 0;
                }
                if (theirs == mine) {
                    if (ties == FIRST && other < guest || ties == LAST && other > guest) {
                        return 0;
                    }
                    alike++;
                }
            }
            return ties == ALL_SHARE ? WHOLE / alike : WHOLE;
        }

        /** Whether one of two has written less than a guest, and the other one more. */
        boolean isBetween(int guest, int a, int b) {
            int mine = slipOf(guest);
            int one = slipOf(a);
            int two = slipOf(b);
            return one < mine && mine < two || two < mine && mine < one;
        }
    }

    /** The suppers that were: each a sum, with the company of then. */
    private static final class Nights {
        private final int[] sums = new int[MOST_NIGHTS];
        private final Company[] companies = new Company[MOST_NIGHTS];
        private int size = 0;

        Nights() {
            for (int i = 0; i < MOST_NIGHTS; i++) {
                companies[i] = new Company();
            }
        }

        int size() {
            return size;
        }

        void clear() {
            size = 0;
        }

        void append(int sum, Company company) {
            if (size < MOST_NIGHTS) {
                sums[size] = sum;
                companies[size].copyFrom(company);
                size++;
            }
        }

        void copyFrom(Nights other) {
            size = other.size;
            for (int i = 0; i < size; i++) {
                sums[i] = other.sums[i];
                companies[i].copyFrom(other.companies[i]);
            }
        }

        int knowers() {
            int knowers = 0;
            for (int guest = 0; guest < MOST_GUESTS; guest++) {
                if (alwaysKnew(guest)) {
                    knowers |= 1 << guest;
                }
            }
            return knowers;
        }

        private boolean alwaysKnew(int guest) {
            for (int i = 0; i < size; i++) {
                if (!companies[i].has(guest) || companies[i].slipOf(guest) != sums[i]) {
                    return false;
                }
            }
            return size > 0;
        }

        int pairsAgainst(int guest) {
            int pairs = 0;
            if (alwaysPaid(guest)) {
                for (int a = 0; a < MOST_GUESTS; a++) {
                    for (int b = a + 1; b < MOST_GUESTS; b++) {
                        if (alwaysBetween(guest, a, b)) {
                            pairs++;
                        }
                    }
                }
            }
            return pairs;
        }

        /** The first pair as 10 a and b, or -1 where there is none. */
        int firstPairAgainst(int guest) {
            if (!alwaysPaid(guest)) {
                return -1;
            }
            for (int a = 0; a < MOST_GUESTS; a++) {
                for (int b = a + 1; b < MOST_GUESTS; b++) {
                    if (alwaysBetween(guest, a, b)) {
                        return 10 * a + b;
                    }
                }
            }
            return -1;
        }

        private boolean alwaysPaid(int guest) {
            for (int i = 0; i < size; i++) {
                Company then = companies[i];
                // The share, not what it comes to: a sum of 0 is paid, too.
                if (then.share(guest, sums[i], then.freeGuest()) == 0) {
                    return false;
                }
            }
            return size > 0;
        }

        private boolean alwaysBetween(int guest, int a, int b) {
            for (int i = 0; i < size; i++) {
                Company then = companies[i];
                if (!then.has(a) || !then.has(b) || !then.isBetween(guest, a, b)) {
                    return false;
                }
            }
            return true;
        }
    }

    /**
     * All that an image keeps. A BURDEN is the top of a guest's mean, before it is divided by WHOLE and by all
     * weights: of one supper the burdens compare as the means do.
     */
    private static final class Table {
        private final Supper supper = new Supper();
        private final Company company = new Company();
        private final Nights nights = new Nights();

        void copyFrom(Table other) {
            supper.copyFrom(other.supper);
            company.copyFrom(other.company);
            nights.copyFrom(other.nights);
        }

        long burden(int guest) {
            int free = company.freeGuest();
            long burden = 0;
            for (int sum = 1; sum < SUMS; sum++) {
                int weight = supper.weightOf(sum);
                if (weight > 0) {
                    burden += (long) sum * weight * company.share(guest, sum, free);
                }
            }
            return burden;
        }

        /** The burden of a guest who always pays all: none is more. */
        long wholeBurden() {
            return (long) WHOLE * supper.weighed();
        }

        long burdenBy(int guest, int slip) {
            int before = company.slipOf(guest);
            company.putSlip(guest, slip);
            long burden = burden(guest);
            company.putSlip(guest, before);
            return burden;
        }

        int lightestSlip(int guest) {
            int before = company.slipOf(guest);
            int lightest = 0;
            long least = wholeBurden() + 1;
            for (int slip = 0; slip < SUMS; slip++) {
                company.putSlip(guest, slip);
                long burden = burden(guest);
                if (burden < least) {
                    least = burden;
                    lightest = slip;
                }
            }
            company.putSlip(guest, before);
            return lightest;
        }

        /** The slip that a guest would have in place of his: his own, if none is better. */
        private int betterSlip(int guest) {
            int slip = company.slipOf(guest);
            if (company.isNought(guest)) {
                return slip;
            }
            int lightest = lightestSlip(guest);
            return burdenBy(guest, lightest) < burden(guest) ? lightest : slip;
        }

        boolean nobodyWouldChange() {
            for (int guest = 0; guest < company.size(); guest++) {
                if (betterSlip(guest) != company.slipOf(guest)) {
                    return false;
                }
            }
            return true;
        }

        int takeTurns(int n) {
            int changed = 0;
            int kept = 0;
            int guest = 0;
            for (int turn = 0; turn < n && kept < company.size(); turn++) {
                int better = betterSlip(guest);
                if (better == company.slipOf(guest)) {
                    kept++;
                } else {
                    company.putSlip(guest, better);
                    changed++;
                    kept = 0;
                }
                guest = guest + 1 < company.size() ? guest + 1 : 0;
            }
            return changed;
        }

        /**
         * The pair of slips of a and b, as SUMS times a's and b's, by which c's burden is most: of like ones the
         * first. A pair that reaches enough ends the search, as no later one is asked for then.
         */
        int hardestPair(int a, int b, int c, long enough) {
            int slipOfA = company.slipOf(a);
            int slipOfB = company.slipOf(b);
            int hardest = 0;
            long most = -1;
            for (int pair = 0; pair < SUMS * SUMS && most < enough; pair++) {
                putPair(a, b, pair);
                long burden = burden(c);
                if (burden > most) {
                    most = burden;
                    hardest = pair;
                }
            }
            company.putSlip(a, slipOfA);
            company.putSlip(b, slipOfB);
            return hardest;
        }

        private void putPair(int a, int b, int pair) {
            company.putSlip(a, pair / SUMS);
            company.putSlip(b, pair % SUMS);
        }

        private long burdenByPair(int a, int b, int c, int pair) {
            int slipOfA = company.slipOf(a);
            int slipOfB = company.slipOf(b);
            putPair(a, b, pair);
            long burden = burden(c);
            company.putSlip(a, slipOfA);
            company.putSlip(b, slipOfB);
            return burden;
        }

        int safestSlip(int a, int b, int c) {
            int before = company.slipOf(c);
            int safest = 0;
            // Above every burden, so that the first slip is the safest as yet.
            long least = wholeBurden() + 1;
            for (int slip = 0; slip < SUMS; slip++) {
                company.putSlip(c, slip);
                long burden = burdenByPair(a, b, c, hardestPair(a, b, c, least));
                if (burden < least) {
                    least = burden;
                    safest = slip;
                }
            }
            company.putSlip(c, before);
            return safest;
        }
    }

    /** The bytes typed, and how they are read. */
    private static final class Tape {
        private static final int END = -1;
        private static final int TOO_MUCH = 1000;

        private final int[] bytes = new int[MOST_BYTES];
        private int size = 0;
        private int at = 0;
        private int fault = 0;

        int size() {
            return size;
        }

        void append(int b) {
            if (size < MOST_BYTES) {
                bytes[size] = b;
                size++;
            }
        }

        /** Reads all as a supper, and is empty then: 0, or the fault. */
        int takeSupper(Supper supper) {
            supper.clear();
            begin();
            boolean more = true;
            for (int dishes = 1; dishes <= MOST_DISHES && more; dishes++) {
                readDish(supper);
                more = goesOn(',', dishes < MOST_DISHES);
            }
            size = 0;
            return fault;
        }

        /** Reads all as guests, and is empty then: 0, or the fault. */
        int takeGuests(Company company) {
            company.clear();
            begin();
            boolean more = true;
            for (int seated = 1; seated <= MOST_GUESTS && more; seated++) {
                readGuest(company);
                more = goesOn(';', seated < MOST_GUESTS);
            }
            size = 0;
            return fault;
        }

        private void readDish(Supper supper) {
            skipBlanks();
            int place = at;
            int sum = readNumber(0, SUMS - 1);
            if (fault == 0 && supper.weightOf(sum) > 0) {
                faultAt(place);
            }
            readSign('x');
            int weight = readNumber(1, MOST_WEIGHT);
            if (fault == 0) {
                supper.putWeight(sum, weight);
            }
        }

        private void readGuest(Company company) {
            int kind = readKind();
            int slip = 0;
            if (fault == 0 && kind != NOUGHT && isFigure(next())) {
                slip = readNumber(0, SUMS - 1);
            }
            if (fault == 0) {
                company.seat(kind, slip);
            }
        }

        private int readKind() {
            int kind = kindBy(next());
            if (kind < 0) {
                faultAt(at);
            } else {
                at++;
            }
            return kind;
        }

        private static int kindBy(int sign) {
            switch (sign) {
                case 's': return SHREWD;
                case 'f': return FOOL;
                case 'n': return NOUGHT;
                case 'k': return KNOWING;
                default: return -1;
            }
        }

        private void begin() {
            at = 0;
            fault = 0;
        }

        private void faultAt(int place) {
            if (fault == 0) {
                fault = -20 - place;
            }
        }

        private void skipBlanks() {
            while (at < size && bytes[at] == ' ') {
                at++;
            }
        }

        /** The next byte that is no blank, which is not taken yet, or END. */
        private int next() {
            skipBlanks();
            return at < size ? bytes[at] : END;
        }

        private static boolean isFigure(int b) {
            return b >= '0' && b <= '9';
        }

        private void readSign(int sign) {
            if (next() == sign) {
                at++;
            } else {
                faultAt(at);
            }
        }

        /** The number that comes next; a fault is at its first byte, or at what stands in its place. */
        private int readNumber(int least, int most) {
            skipBlanks();
            int place = at;
            int number = 0;
            while (at < size && isFigure(bytes[at])) {
                // So many figures may come that the number would run over.
                number = Math.min(10 * number + bytes[at] - '0', TOO_MUCH);
                at++;
            }
            if (at == place || number < least || number > most) {
                faultAt(place);
            }
            return number;
        }

        /** Whether another one follows, behind a sign between; what can't stand there is a fault. */
        private boolean goesOn(int sign, boolean mayGoOn) {
            if (fault != 0 || next() == END) {
                return false;
            }
            if (next() != sign || !mayGoOn) {
                faultAt(at);
                return false;
            }
            at++;
            return true;
        }
    }

    /** Nothing, or a row of a lane. */
    private static final class Sheet {
        private static final int MISSING = -1;

        private final long[] items = new long[MOST_ITEMS];
        private int lane = SHORTS;
        private int size = MISSING;

        boolean isMissing() {
            return size == MISSING;
        }

        int size() {
            return size;
        }

        void begin(int newLane, int n) {
            lane = newLane;
            size = n;
            for (int i = 0; i < MOST_ITEMS; i++) {
                items[i] = 0;
            }
        }

        void end() {
            size = MISSING;
        }

        /** What the machine would find, if n items of a row of a lane were used from one on; or 0. */
        int refusal(int asked, int from, int n) {
            if (isMissing()) {
                return NULL;
            }
            if (asked != lane) {
                return CAST;
            }
            return from < 0 || from > size - n ? INDEX : 0;
        }

        long itemAt(int i) {
            return i >= 0 && i < size ? items[i] : 0;
        }

        void put(int i, long v) {
            if (i >= 0 && i < size) {
                items[i] = narrowed(v);
            }
        }

        private long narrowed(long v) {
            if (lane == SHORTS) {
                return (short) v;
            }
            return lane == INTS ? (int) v : v;
        }

        /** The items from one on as weights, together; -1 if one of them is no weight. */
        long weightsTogether(int from, int n) {
            long together = 0;
            for (int i = 0; i < n; i++) {
                long weight = itemAt(from + i);
                if (weight < 0 || weight > MOST_WEIGHT) {
                    return -1;
                }
                together += weight;
            }
            return together;
        }
    }
}
