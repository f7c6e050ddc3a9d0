import java.util.Arrays;

/**
 * Can there be such a rule: a village of two or three people that chooses between two things,
 * laws over halls and over pairs of halls, and whether a rule can keep them all.
 */
public final class NineDemands {
    private static final int LOW = -1000000;
    private static final int BEYOND = 1;
    private static final int NONE = 2;
    private static final int STATE = 3;
    private static final int FULL = 4;
    private static final int KIND = 5;

    private static final int PEOPLE = 3;
    private static final int HALLS = 12;
    private static final int FIRST_OF_THREE = 4;
    private static final int ABSENT = 2;

    private static final int A = 1;
    private static final int B = 2;
    private static final int BOTH = 3;
    /** CHOICE c is bit c - 1 of a mask of CHOICES inside the program. */
    private static final int ANY_CHOICE = 7;

    private static final int LAW = 0;
    private static final int MOVED = 1;
    private static final int ALIKE = 2;
    private static final int TURNED = 3;
    private static final int COMES = 4;
    private static final int SINGLE = 5;
    private static final int KINDS = 6;
    private static final int[] KIND_ABOVE = {LAW, LAW, MOVED, MOVED, MOVED, LAW};

    private static final int MOST_LAWS = 8;
    private static final int MOST_SETS = 256;
    private static final int MOST_PRICE = 99;
    private static final int MOST_CASES = 32;
    private static final int MOST_TAPE = 50;
    private static final int MOST_WAITING = 20;
    private static final int FORMS = 12;
    private static final int SHEETS = 4;
    private static final int MOST_NUMBERS = 40;
    private static final int NO_FAULT = -1;
    private static final int FAULTY = -10;

    /** In known[]: nothing was worked out yet; and: some RULE FITS, they weren't counted yet. */
    private static final int UNKNOWN = -2;
    private static final int SOME = -1;

    private final Village now = new Village();
    private final Village imaged = new Village();
    private int images = 0;
    private final int[] errors = new int[KIND + 1];
    private final Sheet[] sheets = new Sheet[SHEETS];
    private final Text text = new Text();
    private final Tally tally = new Tally();
    private final Seeker seeker = tally.seeker;
    private final Showing showing = new Showing();
    private final Voices voices = new Voices();
    private final int[] formed = new int[HALLS];
    /** How many RULES FIT by each SET, so that asking again costs nothing. */
    private final int[] known = new int[MOST_SETS];

    public NineDemands() {
        for (int i = 0; i < SHEETS; i++) {
            sheets[i] = new Sheet();
        }
        Arrays.fill(known, UNKNOWN);
    }

    // ---- halls, the told rule

    public int hall(int hall, int what) {
        if (!Halls.exists(hall)) {
            return refuse(BEYOND);
        }
        switch (what) {
            case 0:
                return Halls.people(hall);
            case 1:
                return Halls.wantA(hall);
            case 2:
                return Halls.wantB(hall);
            case 10:
            case 11:
            case 12:
                return Halls.wants(hall, what - 10);
            default:
                return refuse(BEYOND);
        }
    }

    public int moved(int hall, int person) {
        if (!Halls.exists(hall) || person < 0 || person >= PEOPLE) {
            return refuse(BEYOND);
        }
        if (person >= Halls.people(hall)) {
            return refuse(NONE);
        }
        return Halls.withOther(hall, person);
    }

    public int choose(int hall, int choice) {
        if (!Halls.exists(hall) || !isChoice(choice)) {
            return refuse(BEYOND);
        }
        int was = now.rule[hall];
        now.rule[hall] = choice;
        return was;
    }

    public int chosen(int hall) {
        return Halls.exists(hall) ? now.rule[hall] : refuse(BEYOND);
    }

    public int block(int sheet) {
        if (!isSheet(sheet)) {
            return refuse(BEYOND);
        }
        Sheet from = sheets[sheet];
        if (from.isMissing()) {
            return refuse(NONE);
        }
        int n = Math.min(from.size, HALLS);
        for (int i = 0; i < n; i++) {
            if (!isChoice(from.numbers[i])) {
                return refuse(KIND);
            }
        }
        System.arraycopy(from.numbers, 0, now.rule, 0, n);
        return n;
    }

    public int form(int form) {
        if (form < 0 || form >= FORMS) {
            return refuse(BEYOND);
        }
        int changed = 0;
        for (int h = 0; h < HALLS; h++) {
            int choice = Halls.chosenBy(form, h);
            if (now.rule[h] != choice) {
                changed++;
            }
            now.rule[h] = choice;
        }
        return changed;
    }

    // ---- laws

    public int feed(long word, int n) {
        if (n < 1 || n > 8) {
            return refuse(BEYOND);
        }
        if (now.tapeSize + n > MOST_TAPE) {
            return refuse(FULL);
        }
        for (int i = 0; i < n; i++) {
            now.tape[now.tapeSize] = (int) (word >>> (8 * i)) & 255;
            now.tapeSize++;
        }
        return now.tapeSize;
    }

    public int law(int kind, int price) {
        if (!isKind(kind) || !isPrice(price)) {
            return refuse(BEYOND);
        }
        if (now.lawCount >= MOST_LAWS) {
            return refuse(FULL);
        }
        if (hasText(kind)) {
            int fault = text.read(now.tape, now.tapeSize, kind);
            now.tapeSize = 0;
            if (fault != NO_FAULT) {
                return FAULTY - fault;
            }
        }
        int number = now.lawCount;
        Law made = now.laws[number];
        made.kind = kind;
        made.cost = price;
        for (int i = 0; i < Cases.many(kind); i++) {
            made.pairs[i] = pairsOf(kind, i);
        }
        now.lawCount++;
        return number;
    }

    public int price(int law, int price) {
        if (!isLaw(law) || !isPrice(price)) {
            return refuse(BEYOND);
        }
        int was = now.laws[law].cost;
        now.laws[law].cost = price;
        return was;
    }

    public int as(int law, int kind) {
        if (!isLaw(law) || !isKind(kind)) {
            return refuse(BEYOND);
        }
        int own = now.laws[law].kind;
        if (!isUnder(own, kind)) {
            return refuse(KIND);
        }
        return Cases.many(own);
    }

    public int part(int law, int i, int what) {
        if (!isCase(law, i) || what < 0 || what > 1) {
            return refuse(BEYOND);
        }
        int kind = now.laws[law].kind;
        if (what == 0) {
            return Cases.first(kind, i);
        }
        return Cases.isPair(kind) ? Cases.second(kind, i) : refuse(NONE);
    }

    public int so(int law, int i, int c, int d) {
        if (!isCase(law, i) || !isChoice(c)) {
            return refuse(BEYOND);
        }
        Law asked = now.laws[law];
        if (!Cases.isPair(asked.kind)) {
            return asked.goesWith(i, c) != 0 ? 1 : 0;
        }
        if (!isChoice(d)) {
            return refuse(BEYOND);
        }
        return holds(asked.goesWith(i, c), d) ? 1 : 0;
    }

    public int breach(int law) {
        if (!isLaw(law)) {
            return refuse(BEYOND);
        }
        int at = now.laws[law].firstBreach(now.rule);
        return at < 0 ? refuse(NONE) : at;
    }

    public int kept() {
        int bits = 0;
        for (int n = 0; n < now.lawCount; n++) {
            if (now.laws[n].firstBreach(now.rule) < 0) {
                bits |= 1 << n;
            }
        }
        return bits;
    }

    // ---- rules by a set of laws

    public int find(int set, int hall) {
        if (!isSet(set) || !Halls.exists(hall)) {
            return refuse(BEYOND);
        }
        return seekFirst(set) ? seeker.found[hall] : refuse(NONE);
    }

    public int write(int set) {
        if (!isSet(set)) {
            return refuse(BEYOND);
        }
        if (!seekFirst(set)) {
            return refuse(NONE);
        }
        System.arraycopy(seeker.found, 0, now.rule, 0, HALLS);
        return now.choosesBoth();
    }

    public long rules(int set) {
        return isSet(set) ? ways(set) : refuse(BEYOND);
    }

    public int may(int set, int hall) {
        if (!isSet(set) || !Halls.exists(hall)) {
            return refuse(BEYOND);
        }
        if (isOut(set)) {
            return 0;
        }
        seeker.take(now, set);
        int left = seeker.left[hall];
        int bits = 0;
        for (int c = A; c <= BOTH; c++) {
            seeker.left[hall] = left & bit(c);
            if (seeker.fits()) {
                bits |= 1 << c;
            }
        }
        return bits;
    }

    public int near(int set) {
        if (!isSet(set)) {
            return refuse(BEYOND);
        }
        if (isOut(set)) {
            return refuse(NONE);
        }
        seeker.take(now, set);
        tally.reckon(now.rule);
        known[set] = tally.ways;
        return tally.nearest;
    }

    public int word(int set) {
        if (!isSet(set)) {
            return refuse(BEYOND);
        }
        for (int form = 0; form < FORMS; form++) {
            for (int h = 0; h < HALLS; h++) {
                formed[h] = Halls.chosenBy(form, h);
            }
            if (now.fitsBy(set, formed)) {
                return form;
            }
        }
        return refuse(NONE);
    }

    // ---- that there is none

    public int show(int set, int what) {
        if (!isSet(set) || what < -2) {
            return refuse(BEYOND);
        }
        showing.unfold(now, set);
        if (what == -1) {
            return showing.size;
        }
        if (what == -2) {
            return showing.isProof ? 1 : 0;
        }
        return what < showing.size ? showing.steps[what] : refuse(NONE);
    }

    public int check(int set, int sheet) {
        if (!isSet(set) || !isSheet(sheet)) {
            return refuse(BEYOND);
        }
        Sheet told = sheets[sheet];
        if (told.isMissing()) {
            return refuse(NONE);
        }
        showing.begin();
        for (int i = 0; i < told.size; i++) {
            if (!showing.takes(now, set, told.numbers[i])) {
                return i + 1;
            }
        }
        return showing.isProof ? 0 : told.size + 1;
    }

    public int small(int set) {
        if (!isSet(set)) {
            return refuse(BEYOND);
        }
        if (!isOut(set)) {
            return refuse(STATE);
        }
        for (int size = 1; size <= MOST_LAWS; size++) {
            for (int some = 1; some <= set; some++) {
                if ((some & ~set) == 0 && Integer.bitCount(some) == size && isOut(some)) {
                    return some;
                }
            }
        }
        return set;
    }

    public int few(int set) {
        if (!isSet(set)) {
            return refuse(BEYOND);
        }
        if (!isOut(set)) {
            return refuse(STATE);
        }
        seeker.take(now, set);
        return seeker.fewestHalls();
    }

    public int give(int set, int what) {
        if (!isSet(set) || what < 0 || what > 1) {
            return refuse(BEYOND);
        }
        int best = set;
        int least = now.costOf(set);
        for (int some = 0; some < set; some++) {
            if ((some & ~set) != 0) {
                continue;
            }
            int cost = now.costOf(some);
            boolean better = cost < least || cost == least && Integer.bitCount(some) < Integer.bitCount(best);
            if (better && !isOut(set & ~some)) {
                best = some;
                least = cost;
            }
        }
        return what == 0 ? best : least;
    }

    public int follows(int set, int law) {
        if (!isSet(set) || !isLaw(law)) {
            return refuse(BEYOND);
        }
        return isImplied(set, law) ? 1 : 0;
    }

    public int spare(int set) {
        if (!isSet(set)) {
            return refuse(BEYOND);
        }
        int bits = 0;
        for (int n = 0; n < now.lawCount; n++) {
            int one = 1 << n;
            if ((set & one) != 0 && isImplied(set & ~one, n)) {
                bits |= one;
            }
        }
        return bits;
    }

    public int same(int one, int other) {
        if (!isSet(one) || !isSet(other)) {
            return refuse(BEYOND);
        }
        int together = ways(one | other);
        return ways(one) == together && ways(other) == together ? 1 : 0;
    }

    // ---- voices, sheets, images, what is told

    public int voice(int law, int act, int x) {
        if (!isLaw(law) || act < 0 || act >= Voices.ACTS) {
            return refuse(BEYOND);
        }
        return voices.raise(law, now.laws[law], act, x);
    }

    public int trace(int i) {
        return i >= 0 && i < voices.size ? voices.bodies[i] : refuse(NONE);
    }

    public int sheet(int sheet, int bits, int n) {
        if (!isSheet(sheet) || bits != 0 && bits != 8 && bits != 16 && bits != 32) {
            return refuse(BEYOND);
        }
        if (bits != 0 && n < 0) {
            return refuse(STATE);
        }
        if (bits != 0 && n > MOST_NUMBERS) {
            return refuse(BEYOND);
        }
        sheets[sheet].begin(bits, bits == 0 ? 0 : n);
        return 1;
    }

    public int put(int sheet, int i, int v) {
        if (!isSheet(sheet)) {
            return refuse(BEYOND);
        }
        Sheet to = sheets[sheet];
        if (to.isMissing()) {
            return refuse(NONE);
        }
        if (i < 0 || i >= to.size) {
            return refuse(BEYOND);
        }
        to.numbers[i] = to.cut(v);
        return 1;
    }

    public int move(int sheet, int i, int other, int j, int n) {
        if (!isSheet(sheet) || !isSheet(other)) {
            return refuse(BEYOND);
        }
        Sheet from = sheets[sheet];
        Sheet to = sheets[other];
        if (from.isMissing() || to.isMissing()) {
            return refuse(NONE);
        }
        if (from.bits != to.bits) {
            return refuse(KIND);
        }
        if (!from.hasRow(i, n) || !to.hasRow(j, n)) {
            return refuse(BEYOND);
        }
        System.arraycopy(from.numbers, i, to.numbers, j, n);
        return n;
    }

    public int image() {
        imaged.becomeLike(now);
        images++;
        return images;
    }

    public int restore() {
        if (images == 0) {
            return refuse(NONE);
        }
        now.becomeLike(imaged);
        // The numbers of LAWS may stand for other LAWS now than when the SETS were worked out.
        Arrays.fill(known, UNKNOWN);
        return now.lawCount;
    }

    public int tell(int v) {
        if (now.waitCount >= MOST_WAITING) {
            return refuse(FULL);
        }
        now.waits[now.waitCount] = v;
        now.waitCount++;
        return now.waitCount;
    }

    public int learn(int set) {
        int n = now.waitCount;
        now.waitCount = 0;
        if (!isSet(set)) {
            return refuse(BEYOND);
        }
        if (!seekFirst(set)) {
            return refuse(NONE);
        }
        for (int i = 0; i < n; i++) {
            if (i >= HALLS || now.waits[i] != seeker.found[i]) {
                return i + 1;
            }
        }
        return 0;
    }

    public int count(int what) {
        switch (what) {
            case 0:
                return now.lawCount;
            case 1:
                return now.costOf((1 << now.lawCount) - 1);
            case 2:
                return now.choosesBoth();
            case 3:
                return now.tapeSize;
            case 4:
                return now.waitCount;
            case 5:
                return voices.size;
            default:
                return refuse(BEYOND);
        }
    }

    public int told(int k) {
        return k >= BEYOND && k <= KIND ? errors[k] : refuse(BEYOND);
    }

    // ---- what several calls share

    private int refuse(int error) {
        errors[error]++;
        return LOW - error;
    }

    private boolean isLaw(int law) {
        return law >= 0 && law < now.lawCount;
    }

    private boolean isCase(int law, int i) {
        return isLaw(law) && i >= 0 && i < Cases.many(now.laws[law].kind);
    }

    private boolean isSet(int set) {
        return set >= 0 && set < 1 << now.lawCount;
    }

    private static boolean isSheet(int sheet) {
        return sheet >= 0 && sheet < SHEETS;
    }

    private static boolean isKind(int kind) {
        return kind >= 0 && kind < KINDS;
    }

    private static boolean isPrice(int price) {
        return price >= 0 && price <= MOST_PRICE;
    }

    private static boolean isChoice(int choice) {
        return choice >= A && choice <= BOTH;
    }

    private static boolean hasText(int kind) {
        return kind == LAW || kind == MOVED || kind == COMES;
    }

    private static boolean isUnder(int kind, int above) {
        int at = kind;
        for (int up = 0; up < KINDS && at != above && at != LAW; up++) {
            at = KIND_ABOVE[at];
        }
        return at == above;
    }

    private static int bit(int choice) {
        return 1 << (choice - 1);
    }

    private static boolean holds(int mask, int choice) {
        return (mask >> (choice - 1) & 1) != 0;
    }

    private static int leastOf(int mask) {
        if (holds(mask, A)) {
            return A;
        }
        return holds(mask, B) ? B : BOTH;
    }

    private int pairsOf(int kind, int i) {
        switch (kind) {
            case ALIKE:
                return Law.SAME_CHOICE;
            case TURNED:
                return Law.CHANGED_CHOICE;
            case SINGLE:
                return Law.NOT_BOTH;
            default:
                return text.pairs(kind, i);
        }
    }

    private boolean isOut(int set) {
        if (known[set] == UNKNOWN) {
            seeker.take(now, set);
            known[set] = seeker.fits() ? SOME : 0;
        }
        return known[set] == 0;
    }

    private int ways(int set) {
        if (known[set] < 0) {
            seeker.take(now, set);
            tally.reckon(now.rule);
            known[set] = tally.ways;
        }
        return known[set];
    }

    /** If a RULE FITS, seeker.found is THE FIRST one. */
    private boolean seekFirst(int set) {
        if (isOut(set)) {
            return false;
        }
        seeker.take(now, set);
        return seeker.fits();
    }

    /** The RULES that FIT with the LAW are some of those without it: all, if they are as many. */
    private boolean isImplied(int set, int law) {
        return ways(set) == ways(set | 1 << law);
    }

    /** What is asked of a HALL by its number alone. */
    private static final class Halls {
        static boolean exists(int hall) {
            return hall >= 0 && hall < HALLS;
        }

        static int people(int hall) {
            return hall < FIRST_OF_THREE ? 2 : 3;
        }

        static int base(int hall) {
            return hall < FIRST_OF_THREE ? 0 : FIRST_OF_THREE;
        }

        static int wants(int hall, int person) {
            return person < people(hall) ? (hall - base(hall)) >> person & 1 : ABSENT;
        }

        static int wantB(int hall) {
            return Integer.bitCount(hall - base(hall));
        }

        static int wantA(int hall) {
            return people(hall) - wantB(hall);
        }

        static int withOther(int hall, int person) {
            return base(hall) + (hall - base(hall) ^ 1 << person);
        }

        static int allOther(int hall) {
            int everyone = (1 << people(hall)) - 1;
            return base(hall) + (hall - base(hall) ^ everyone);
        }

        static int chosenBy(int form, int hall) {
            switch (form) {
                case 0:
                    return A;
                case 1:
                    return B;
                case 2:
                    return BOTH;
                case 3:
                    return A + wants(hall, 0);
                case 4:
                    return A + wants(hall, 1);
                case 5:
                    return ofMost(hall, BOTH);
                case 6:
                    return ofMost(hall, A);
                case 7:
                    return ofMost(hall, B);
                case 8:
                    return ofMost(hall, A + wants(hall, 0));
                case 9:
                    return ofAll(hall);
                case 10:
                    return wantB(hall) > 0 ? B : A;
                default:
                    return wantA(hall) > 0 ? A : B;
            }
        }

        private static int ofMost(int hall, int ifAsMany) {
            int more = wantA(hall) - wantB(hall);
            if (more == 0) {
                return ifAsMany;
            }
            return more > 0 ? A : B;
        }

        private static int ofAll(int hall) {
            if (wantB(hall) == 0) {
                return A;
            }
            return wantA(hall) == 0 ? B : BOTH;
        }
    }

    /** The CASES of each KIND, by their places. */
    private static final class Cases {
        /** MOVED's CASES with HALLS of two are the first 8. */
        private static final int MOVED_OF_TWO = 8;
        private static final int[] MANY = {12, 32, 14, 12, 8, 12};
        private static final int[] ALIKE_FIRST = {1, 2, 5, 5, 6, 6, 7, 7, 8, 8, 9, 9, 10, 10};
        private static final int[] ALIKE_SECOND = {2, 1, 6, 8, 5, 8, 10, 9, 5, 6, 10, 7, 9, 7};

        static int many(int kind) {
            return isKind(kind) ? MANY[kind] : 0;
        }

        static boolean isPair(int kind) {
            return kind != LAW && kind != SINGLE;
        }

        static int first(int kind, int i) {
            switch (kind) {
                case MOVED:
                    return i < MOVED_OF_TWO ? i / 2 : FIRST_OF_THREE + (i - MOVED_OF_TWO) / 3;
                case ALIKE:
                    return i >= 0 && i < ALIKE_FIRST.length ? ALIKE_FIRST[i] : 0;
                case COMES:
                    return i / 2;
                default:
                    return i;
            }
        }

        static int second(int kind, int i) {
            int h = first(kind, i);
            switch (kind) {
                case MOVED:
                    return Halls.withOther(h, changer(i));
                case ALIKE:
                    return i >= 0 && i < ALIKE_SECOND.length ? ALIKE_SECOND[i] : 0;
                case TURNED:
                    return Halls.allOther(h);
                case COMES:
                    return FIRST_OF_THREE + h + 4 * (i % 2);
                default:
                    return h;
            }
        }

        /** Who wants the other THING in k, in a CASE of MOVED. */
        static int changer(int i) {
            return i < MOVED_OF_TWO ? i % 2 : (i - MOVED_OF_TWO) % 3;
        }
    }

    /** A LAW, its TEXT worked out for all CHOICES of all its CASES. */
    private static final class Law {
        /** Bit 3 * (c - 1) + d - 1 of a number of pairs: c and d are so. */
        static final int SAME_CHOICE = 1 | 1 << 4 | 1 << 8;
        static final int CHANGED_CHOICE = 1 << 1 | 1 << 3 | 1 << 8;
        static final int NOT_BOTH = ANY_CHOICE | ANY_CHOICE << 3;

        int kind = LAW;
        int cost = 0;
        final int[] pairs = new int[MOST_CASES];

        void becomeLike(Law other) {
            kind = other.kind;
            cost = other.cost;
            System.arraycopy(other.pairs, 0, pairs, 0, MOST_CASES);
        }

        /** The CHOICES of k that go with c in h; without a k all of them, or none if c isn't so. */
        int goesWith(int i, int c) {
            return pairs[i] >> 3 * (c - 1) & ANY_CHOICE;
        }

        /** The CHOICES of h that go with d in k. */
        int comesWith(int i, int d) {
            int column = pairs[i] >> (d - 1);
            return column & 1 | column >> 2 & 2 | column >> 4 & 4;
        }

        int firstBreach(int[] rule) {
            for (int i = 0; i < Cases.many(kind); i++) {
                int c = rule[Cases.first(kind, i)];
                int d = rule[Cases.second(kind, i)];
                if (!holds(goesWith(i, c), d)) {
                    return i;
                }
            }
            return -1;
        }
    }

    /** All that an IMAGE keeps. */
    private static final class Village {
        final int[] rule = new int[HALLS];
        final Law[] laws = new Law[MOST_LAWS];
        int lawCount = 0;
        final int[] tape = new int[MOST_TAPE];
        int tapeSize = 0;
        final int[] waits = new int[MOST_WAITING];
        int waitCount = 0;

        Village() {
            Arrays.fill(rule, BOTH);
            for (int n = 0; n < MOST_LAWS; n++) {
                laws[n] = new Law();
            }
        }

        void becomeLike(Village other) {
            System.arraycopy(other.rule, 0, rule, 0, HALLS);
            lawCount = other.lawCount;
            for (int n = 0; n < lawCount; n++) {
                laws[n].becomeLike(other.laws[n]);
            }
            System.arraycopy(other.tape, 0, tape, 0, MOST_TAPE);
            tapeSize = other.tapeSize;
            System.arraycopy(other.waits, 0, waits, 0, MOST_WAITING);
            waitCount = other.waitCount;
        }

        boolean isOf(int set, int law) {
            return law >= 0 && law < lawCount && (set >> law & 1) != 0;
        }

        int costOf(int set) {
            int sum = 0;
            for (int n = 0; n < lawCount; n++) {
                if (isOf(set, n)) {
                    sum += laws[n].cost;
                }
            }
            return sum;
        }

        int choosesBoth() {
            int halls = 0;
            for (int h = 0; h < HALLS; h++) {
                if (rule[h] == BOTH) {
                    halls++;
                }
            }
            return halls;
        }

        boolean fitsBy(int set, int[] asked) {
            for (int n = 0; n < lawCount; n++) {
                if (isOf(set, n) && laws[n].firstBreach(asked) >= 0) {
                    return false;
                }
            }
            return true;
        }
    }

    /** Reads a TEXT from THE TAPE into signs behind their numbers, and works it out for CASES. */
    private static final class Text {
        private static final int DEEPEST = 5;
        private static final int MOST_DIGITS = 4;
        /** In code[] numbers are themselves; NAMES and signs stand above all numbers. */
        private static final int NAME = 10000;
        private static final int SIGN = 20000;
        /** All KINDS with a TEXT know the first 7, COMES the first 9 and MOVED all. */
        private static final int[] NAMES = {'a', 'b', 'c', 's', 'p', 'q', 'r', 'd', 'w', 'i'};
        private static final int AT_C = 2;
        private static final int AT_D = 7;
        private static final int AT_W = 8;
        private static final int AT_I = 9;

        private int[] tape = new int[MOST_TAPE];
        private int end = 0;
        private int at = 0;
        private int fault = NO_FAULT;
        private int nameCount = 0;
        private final int[] code = new int[MOST_TAPE];
        private int size = 0;
        private final int[] stack = new int[MOST_TAPE];
        private final int[] values = new int[NAMES.length];

        int read(int[] from, int n, int kind) {
            tape = from;
            end = n;
            at = 0;
            size = 0;
            fault = NO_FAULT;
            nameCount = kind == LAW ? AT_D : kind == COMES ? AT_I : NAMES.length;
            readEither(0);
            if (at < end) {
                fail();
            }
            return fault;
        }

        private void readEither(int open) {
            readAll(open);
            for (int k = 0; k < MOST_TAPE && next() == '|'; k++) {
                at++;
                readAll(open);
                add(SIGN + '|');
            }
        }

        private void readAll(int open) {
            readCompared(open);
            for (int k = 0; k < MOST_TAPE && next() == '&'; k++) {
                at++;
                readCompared(open);
                add(SIGN + '&');
            }
        }

        private void readCompared(int open) {
            readSum(open);
            int sign = next();
            if (sign == '<' || sign == '=' || sign == '>') {
                at++;
                readSum(open);
                add(SIGN + sign);
            }
        }

        private void readSum(int open) {
            readProduct(open);
            int sign = next();
            for (int k = 0; k < MOST_TAPE && (sign == '+' || sign == '-'); k++) {
                at++;
                readProduct(open);
                add(SIGN + sign);
                sign = next();
            }
        }

        private void readProduct(int open) {
            readOne(open);
            int sign = next();
            for (int k = 0; k < MOST_TAPE && (sign == '*' || sign == '/' || sign == '%'); k++) {
                at++;
                readOne(open);
                add(SIGN + sign);
                sign = next();
            }
        }

        private void readOne(int open) {
            int sign = next();
            int name = nameOf(sign);
            if (isDigit(sign)) {
                readNumber();
            } else if (name >= 0) {
                at++;
                add(NAME + name);
            } else if (sign == '!' && open < DEEPEST) {
                at++;
                readOne(open + 1);
                add(SIGN + '!');
            } else if (sign == '(' && open < DEEPEST) {
                at++;
                readEither(open + 1);
                readClosing();
            } else {
                fail();
            }
        }

        private void readNumber() {
            int number = 0;
            for (int k = 0; k < MOST_DIGITS && isDigit(next()); k++) {
                number = 10 * number + next() - '0';
                at++;
            }
            add(number);
        }

        private void readClosing() {
            if (next() == ')') {
                at++;
            } else {
                fail();
            }
        }

        /** -1 behind the end, and behind a FAULT, so that all reading ends there. */
        private int next() {
            return fault == NO_FAULT && at < end && at < tape.length ? tape[at] : -1;
        }

        private void fail() {
            if (fault == NO_FAULT) {
                fault = at;
            }
        }

        private static boolean isDigit(int sign) {
            return sign >= '0' && sign <= '9';
        }

        private int nameOf(int sign) {
            for (int k = 0; k < nameCount && k < NAMES.length; k++) {
                if (NAMES[k] == sign) {
                    return k;
                }
            }
            return -1;
        }

        private void add(int token) {
            if (size < code.length) {
                code[size] = token;
                size++;
            }
        }

        /** Which CHOICES c and d are so in a CASE, as a LAW holds them. */
        int pairs(int kind, int i) {
            name(kind, i);
            int bits = 0;
            for (int c = A; c <= BOTH; c++) {
                values[AT_C] = c;
                bits |= row(kind) << 3 * (c - 1);
            }
            return bits;
        }

        private int row(int kind) {
            if (!Cases.isPair(kind)) {
                return work() != 0 ? ANY_CHOICE : 0;
            }
            int bits = 0;
            for (int d = A; d <= BOTH; d++) {
                values[AT_D] = d;
                if (work() != 0) {
                    bits |= bit(d);
                }
            }
            return bits;
        }

        private void name(int kind, int i) {
            int h = Cases.first(kind, i);
            values[0] = Halls.wantA(h);
            values[1] = Halls.wantB(h);
            values[3] = Halls.people(h);
            values[4] = Halls.wants(h, 0);
            values[5] = Halls.wants(h, 1);
            values[6] = Halls.wants(h, 2);
            if (kind == MOVED) {
                values[AT_I] = Cases.changer(i);
                values[AT_W] = Halls.wants(h, values[AT_I]);
            }
            if (kind == COMES) {
                values[AT_W] = Halls.wants(Cases.second(kind, i), 2);
            }
        }

        private int work() {
            int top = 0;
            for (int k = 0; k < size; k++) {
                int token = code[k];
                if (token >= SIGN) {
                    top = apply(token - SIGN, top);
                } else if (top < stack.length) {
                    stack[top] = token >= NAME ? values[token - NAME] : token;
                    top++;
                }
            }
            return stack[0];
        }

        /** Works a sign out on the stack: where its top is then. */
        private int apply(int sign, int top) {
            if (sign == '!' && top >= 1) {
                stack[top - 1] = truth(stack[top - 1] == 0);
                return top;
            }
            if (top < 2) {
                return top;
            }
            stack[top - 2] = join(sign, stack[top - 2], stack[top - 1]);
            return top - 1;
        }

        private static int join(int sign, int left, int right) {
            switch (sign) {
                case '|':
                    return truth(left != 0 || right != 0);
                case '&':
                    return truth(left != 0 && right != 0);
                case '<':
                    return truth(left < right);
                case '=':
                    return truth(left == right);
                case '>':
                    return truth(left > right);
                case '+':
                    return left + right;
                case '-':
                    return left - right;
                case '*':
                    return left * right;
                case '/':
                    return right == 0 ? 0 : left / right;
                default:
                    return right == 0 ? 0 : left % right;
            }
        }

        private static int truth(boolean so) {
            return so ? 1 : 0;
        }
    }

    /** Seeks RULES by what all LAWS of a SET together leave. */
    private static final class Seeker {
        private static final int OF_TWO = 15;
        private static final int OF_THREE = 4080;
        private static final int ALL = 4095;
        private static final int MOST_SEEN = 64;

        /** The CHOICES of k that go with c in h: at (h * HALLS + k) * 4 + c. */
        final int[] go = new int[HALLS * HALLS * 4];
        /** The CHOICES left in each HALL: a row at first, and one for each HALL that has chosen. */
        final int[] left = new int[(HALLS + 1) * HALLS];
        final int[] found = new int[HALLS];
        private boolean comes = false;
        /** HALLS that were seen to fit together; whatever is among such does, too. */
        private final int[] seen = new int[MOST_SEEN];
        private int seenCount = 0;

        void take(Village village, int set) {
            Arrays.fill(go, ANY_CHOICE);
            Arrays.fill(left, 0, HALLS, ANY_CHOICE);
            comes = false;
            for (int n = 0; n < village.lawCount; n++) {
                if (village.isOf(set, n)) {
                    add(village.laws[n]);
                }
            }
        }

        private void add(Law law) {
            comes = comes || law.kind == COMES;
            for (int i = 0; i < Cases.many(law.kind); i++) {
                int h = Cases.first(law.kind, i);
                if (Cases.isPair(law.kind)) {
                    addPair(law, i, h, Cases.second(law.kind, i));
                } else {
                    left[h] &= law.comesWith(i, A);
                }
            }
        }

        private void addPair(Law law, int i, int h, int k) {
            for (int c = A; c <= BOTH; c++) {
                go[(h * HALLS + k) * 4 + c] &= law.goesWith(i, c);
                go[(k * HALLS + h) * 4 + c] &= law.comesWith(i, c);
            }
        }

        /**
         * If a RULE FITS, found is the first one. HALLS of two and of three are asked apart first:
         * else all that fits in those would be tried again and again with what can't fit in these.
         */
        boolean fits() {
            return seek(0, 0, OF_TWO) && seek(0, 0, OF_THREE) && (!comes || seek(0, 0, ALL));
        }

        private boolean seek(int depth, int from, int halls) {
            int h = from;
            while (h < HALLS && (halls >> h & 1) == 0) {
                h++;
            }
            if (h >= HALLS || depth >= HALLS) {
                return true;
            }
            int mask = left[depth * HALLS + h];
            for (int c = A; c <= BOTH; c++) {
                if (holds(mask, c) && narrow(depth, h, c, halls)) {
                    found[h] = c;
                    if (seek(depth + 1, h + 1, halls)) {
                        return true;
                    }
                }
            }
            return false;
        }

        /** Makes the next row of what is left in later HALLS; false if one has nothing left. */
        private boolean narrow(int depth, int h, int c, int halls) {
            int row = depth * HALLS;
            for (int k = h + 1; k < HALLS; k++) {
                if ((halls >> k & 1) != 0) {
                    int mask = left[row + k] & go[(h * HALLS + k) * 4 + c];
                    if (mask == 0) {
                        return false;
                    }
                    left[row + HALLS + k] = mask;
                }
            }
            return true;
        }

        int fewestHalls() {
            seenCount = 0;
            for (int size = 1; size < HALLS; size++) {
                int halls = (1 << size) - 1;
                for (int k = 0; k < ALL && halls <= ALL; k++) {
                    if (!wasSeen(halls)) {
                        if (!seek(0, 0, halls)) {
                            return halls;
                        }
                        keepSeen(halls);
                    }
                    halls = nextOfSize(halls);
                }
            }
            return ALL;
        }

        private boolean wasSeen(int halls) {
            for (int k = 0; k < seenCount; k++) {
                if ((halls & ~seen[k]) == 0) {
                    return true;
                }
            }
            return false;
        }

        /** With them all further HALLS that fit what was just found. */
        private void keepSeen(int halls) {
            if (seenCount >= MOST_SEEN) {
                return;
            }
            int more = halls;
            for (int k = 0; k < HALLS; k++) {
                int mask = (more >> k & 1) != 0 ? 0 : leftBeside(k, more);
                if (mask != 0) {
                    found[k] = leastOf(mask);
                    more |= 1 << k;
                }
            }
            seen[seenCount] = more;
            seenCount++;
        }

        private int leftBeside(int k, int halls) {
            int mask = left[k];
            for (int h = 0; h < HALLS; h++) {
                if ((halls >> h & 1) != 0) {
                    mask &= go[(h * HALLS + k) * 4 + found[h]];
                }
            }
            return mask;
        }

        /** The next greater number with as many bits. */
        private static int nextOfSize(int bits) {
            int low = bits & -bits;
            if (low == 0) {
                return bits;
            }
            int up = bits + low;
            return up | (bits ^ up) / low >> 2;
        }
    }

    /**
     * Counts the RULES that FIT, and how near one comes to THE TOLD RULE, without walking through
     * each: once the six HALLS of three in which people differ have chosen, HALLS 1 and 2 hang
     * only on 0 and 3, and so do 4 and 11, so that tables answer for these pairs.
     */
    private static final class Tally {
        private static final int[] WALK = {5, 6, 8, 7, 9, 10};
        private static final int FAR = 99;
        private static final int TABLE = 64;

        /** What is counted is what this one has taken. */
        final Seeker seeker = new Seeker();
        private final int[] go = seeker.go;
        private final int[] left = new int[7 * HALLS];
        private final int[] rule = new int[HALLS];
        private final int[] middleWays = new int[TABLE];
        private final int[] middleNear = new int[TABLE];
        private final int[] endWays = new int[TABLE];
        private final int[] endNear = new int[TABLE];
        int ways = 0;
        int nearest = FAR;

        void reckon(int[] told) {
            System.arraycopy(told, 0, rule, 0, HALLS);
            System.arraycopy(seeker.left, 0, left, 0, HALLS);
            ways = 0;
            nearest = FAR;
            int times = settleFree();
            if (times == 0) {
                return;
            }
            pairUp(1, 2, middleWays, middleNear);
            pairUp(4, 11, endWays, endNear);
            walk(0, 0);
            ways *= times;
        }

        /** A HALL that hangs on no other needs no walk: how often all these multiply the rest. */
        private int settleFree() {
            int times = 1;
            for (int h = 0; h < HALLS; h++) {
                int mask = left[h];
                if (mask == 0) {
                    return 0;
                }
                if (isFree(h)) {
                    times *= Integer.bitCount(mask);
                    left[h] = holds(mask, rule[h]) ? bit(rule[h]) : mask & -mask;
                }
            }
            return times;
        }

        private boolean isFree(int h) {
            for (int k = 0; k < HALLS; k++) {
                for (int c = A; c <= BOTH; c++) {
                    if (go[(h * HALLS + k) * 4 + c] != ANY_CHOICE) {
                        return false;
                    }
                }
            }
            return true;
        }

        /** For all masks of h and of k, at 8 * h's + k's: each from the one with a bit less. */
        private void pairUp(int h, int k, int[] pairs, int[] near) {
            for (int some = 0; some < 8; some++) {
                int c = leastOf(some);
                int rest = some & (some - 1);
                for (int others = 0; others < 8; others++) {
                    int at = 8 * some + others;
                    if (some == 0) {
                        pairs[at] = 0;
                        near[at] = FAR;
                    } else {
                        int mask = others & go[(h * HALLS + k) * 4 + c];
                        pairs[at] = pairs[8 * rest + others] + Integer.bitCount(mask);
                        near[at] = Math.min(near[8 * rest + others], off(h, c) + leastOff(k, mask));
                    }
                }
            }
        }

        private int off(int h, int c) {
            return rule[h] == c ? 0 : 1;
        }

        private int leastOff(int h, int mask) {
            if (mask == 0) {
                return FAR;
            }
            return holds(mask, rule[h]) ? 0 : 1;
        }

        private void walk(int depth, int cost) {
            if (depth >= WALK.length) {
                close(cost);
                return;
            }
            int h = WALK[depth];
            int mask = left[depth * HALLS + h];
            for (int c = A; c <= BOTH; c++) {
                if (holds(mask, c) && narrow(depth, h, c)) {
                    walk(depth + 1, cost + off(h, c));
                }
            }
        }

        private boolean narrow(int depth, int h, int c) {
            int row = depth * HALLS;
            for (int k = 0; k < HALLS; k++) {
                int mask = left[row + k] & go[(h * HALLS + k) * 4 + c];
                if (mask == 0) {
                    return false;
                }
                left[row + HALLS + k] = mask;
            }
            return true;
        }

        private void close(int cost) {
            int mask = left[WALK.length * HALLS];
            for (int c = A; c <= BOTH; c++) {
                if (holds(mask, c)) {
                    closeWith(c, cost + off(0, c));
                }
            }
        }

        private void closeWith(int ofHall0, int cost) {
            int row = WALK.length * HALLS;
            int mask = left[row + 3] & with(0, ofHall0, 3);
            for (int c = A; c <= BOTH; c++) {
                if (holds(mask, c)) {
                    int one = left[row + 1] & with(0, ofHall0, 1) & with(3, c, 1);
                    int two = left[row + 2] & with(0, ofHall0, 2) & with(3, c, 2);
                    int low = left[row + 4] & with(0, ofHall0, 4);
                    int high = left[row + 11] & with(3, c, 11);
                    int middle = 8 * one + two;
                    int end = 8 * low + high;
                    ways += middleWays[middle] * endWays[end];
                    nearest = Math.min(nearest, cost + off(3, c) + middleNear[middle] + endNear[end]);
                }
            }
        }

        private int with(int h, int c, int k) {
            return go[(h * HALLS + k) * 4 + c];
        }
    }

    /** Strikes CHOICES step by step: THE SHOWING, and STEPS that are told. */
    private static final class Showing {
        private static final int MOST_STEPS = 36;
        private static final int PER_LAW = 48;
        private static final int PER_HALL = 4;

        private final int[] left = new int[HALLS];
        final int[] steps = new int[MOST_STEPS];
        int size = 0;
        boolean isProof = false;

        void begin() {
            Arrays.fill(left, ANY_CHOICE);
            size = 0;
            isProof = false;
        }

        void unfold(Village village, int set) {
            begin();
            int before = -1;
            for (int round = 0; round <= MOST_STEPS && !isProof && size != before; round++) {
                before = size;
                for (int n = 0; n < village.lawCount && !isProof; n++) {
                    if (village.isOf(set, n)) {
                        goThrough(village.laws[n], n);
                    }
                }
            }
        }

        private void goThrough(Law law, int n) {
            for (int i = 0; i < Cases.many(law.kind) && !isProof; i++) {
                int h = Cases.first(law.kind, i);
                int k = Cases.second(law.kind, i);
                for (int c = A; c <= BOTH && !isProof; c++) {
                    if (holds(left[h], c) && failsAsFirst(law, i, c)) {
                        strike(n, h, c);
                    }
                }
                for (int d = A; d <= BOTH && !isProof; d++) {
                    if (holds(left[k], d) && failsAsSecond(law, i, d)) {
                        strike(n, k, d);
                    }
                }
            }
        }

        private boolean failsAsFirst(Law law, int i, int c) {
            int others = law.goesWith(i, c);
            if (Cases.isPair(law.kind)) {
                others &= left[Cases.second(law.kind, i)];
            }
            return others == 0;
        }

        private boolean failsAsSecond(Law law, int i, int d) {
            return Cases.isPair(law.kind) && (law.comesWith(i, d) & left[Cases.first(law.kind, i)]) == 0;
        }

        private void strike(int n, int h, int c) {
            left[h] &= ~bit(c);
            if (size < MOST_STEPS) {
                steps[size] = PER_LAW * n + PER_HALL * h + c;
                size++;
            }
            isProof = isProof || left[h] == 0;
        }

        /** A number that is a STEP and FOLLOWS is struck. */
        boolean takes(Village village, int set, int step) {
            if (step < 0) {
                return false;
            }
            int n = step / PER_LAW;
            int h = step % PER_LAW / PER_HALL;
            int c = step % PER_HALL;
            if (c == 0 || !village.isOf(set, n) || !holds(left[h], c) || !isForced(village.laws[n], h, c)) {
                return false;
            }
            strike(n, h, c);
            return true;
        }

        private boolean isForced(Law law, int h, int c) {
            for (int i = 0; i < Cases.many(law.kind); i++) {
                if (Cases.first(law.kind, i) == h && failsAsFirst(law, i, c)) {
                    return true;
                }
                if (Cases.second(law.kind, i) == h && failsAsSecond(law, i, c)) {
                    return true;
                }
            }
            return false;
        }
    }

    /** What LAWS say, by the BODIES of their KINDS. */
    private static final class Voices {
        static final int ACTS = 4;
        private static final int BIDS = 0;
        private static final int BARS = 1;
        private static final int YIELDS = 2;
        private static final int STANDS = 3;
        private static final int DEEPEST = 40;
        private static final int MOST_BODIES = 40;
        /** The BODY of each KIND for each act, or 0. */
        private static final int[] BODIES = {
            10, 11, 12, 13,
            0, 20, 0, 0,
            30, 0, 0, 31,
            0, 0, 40, 0,
            0, 51, 0, 50,
            60, 0, 61, 0,
        };

        final int[] bodies = new int[MOST_BODIES];
        int size = 0;
        private int number = 0;
        private int cost = 0;
        private int own = LAW;

        int raise(int law, Law speaker, int act, int x) {
            size = 0;
            number = law;
            cost = speaker.cost;
            own = speaker.kind;
            return say(own, act, x, 0);
        }

        private int say(int from, int act, int x, int depth) {
            if (depth >= DEEPEST) {
                return 0;
            }
            int kind = withBody(from, act);
            int above = KIND_ABOVE[kind];
            int body = BODIES[ACTS * kind + act];
            note(body);
            int deeper = depth + 1;
            switch (body) {
                case 10:
                    return x + number;
                case 11:
                    return say(own, BIDS, x, deeper) * 2;
                case 12:
                    return x - cost;
                case 13:
                    return say(own, BARS, x, deeper) ^ say(own, YIELDS, x, deeper);
                case 20:
                    return say(above, BARS, x, deeper) + say(own, YIELDS, x, deeper);
                case 30:
                    return say(above, BIDS, x, deeper) - 1;
                case 31:
                    return say(above, STANDS, x + 1, deeper);
                case 40:
                    return -say(above, YIELDS, x, deeper);
                case 50:
                    return say(own, YIELDS, x, deeper) - say(above, STANDS, x, deeper);
                case 51:
                    return say(above, BARS, x - cost, deeper);
                case 60:
                    return say(above, BIDS, x, deeper) ^ 5;
                default:
                    return say(above, YIELDS, x, deeper) * say(own, BIDS, 1, deeper);
            }
        }

        private static int withBody(int from, int act) {
            int kind = from;
            for (int up = 0; up < KINDS && BODIES[ACTS * kind + act] == 0; up++) {
                kind = KIND_ABOVE[kind];
            }
            return kind;
        }

        private void note(int body) {
            if (size < MOST_BODIES) {
                bodies[size] = body;
                size++;
            }
        }
    }

    /** A row of numbers of 8, 16 or 32 bits; with 0 bits it is missing. */
    private static final class Sheet {
        int bits = 0;
        int size = 0;
        final int[] numbers = new int[MOST_NUMBERS];

        boolean isMissing() {
            return bits == 0;
        }

        void begin(int newBits, int n) {
            bits = newBits;
            size = n;
            Arrays.fill(numbers, 0);
        }

        /** As Java's byte and short hold them. */
        int cut(int v) {
            if (bits == 8) {
                return (byte) v;
            }
            return bits == 16 ? (short) v : v;
        }

        boolean hasRow(int i, int n) {
            return i >= 0 && n >= 0 && n <= size && i <= size - n;
        }
    }
}
