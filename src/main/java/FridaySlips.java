import java.util.Arrays;

/**
 * A village in which everybody is somebody else on Fridays, by lot.
 *
 * The face checks what it is asked and answers findings; the classes inside
 * are only handed people, kinds and places that are there.
 */
public final class FridaySlips {
    private static final int FIRST_FINDING = -1000000001;
    private static final int BEYOND = 0;
    private static final int FULL = 1;
    private static final int KIND = 2;
    private static final int NONE = 3;
    private static final int STATE = 4;
    private static final int MISSING = 5;
    private static final int SIZE = 6;
    private static final int FINDINGS = 7;

    private static final int VILLAGER = 0;
    private static final int SMITH = 1;
    private static final int SHY = 2;
    private static final int CHILD = 3;
    private static final int PRIEST = 4;
    private static final int THIEF = 5;
    private static final int KINDS = 6;

    private static final int MOST_PEOPLE = 8;
    private static final int MOST_WORK = 20;
    private static final int MOST_PURSE = 99999;
    private static final int MOST_TOLD_PURSE = 999;
    private static final int MOST_NAME = 99;
    private static final int MOST_KEPT = 99;
    private static final int LAST_FRIDAY = 9999;
    private static final int MOST_FRIDAYS = 60;
    private static final int MOST_SEASON = 20;
    private static final int MOST_DRAWS = 60;
    private static final int MOST_TAPE = 120;
    private static final int MOST_FED = 4;
    private static final int SHEETS = 4;
    private static final int MOST_NUMBERS = 40;

    private final Village today = new Village();
    private final Village latest = new Village();
    /** What would be is tried here, so that no call has to make a village of its own. */
    private final Village trial = new Village();
    private final BestLot best = new BestLot();
    private final VillageText text = new VillageText();
    private final Tape tape = text.tape;
    private final Sheet[] sheets = new Sheet[SHEETS];
    private final int[] found = new int[FINDINGS];
    private boolean isKept;

    public FridaySlips() {
        for (int s = 0; s < SHEETS; s++) {
            sheets[s] = new Sheet();
        }
    }

    // ---- people

    public int person(int kind) {
        if (!isKind(kind)) {
            return finding(BEYOND);
        }
        if (today.isFull()) {
            return finding(FULL);
        }
        return today.add(kind);
    }

    public int of(int person, int what) {
        if (!today.has(person)) {
            return finding(BEYOND);
        }
        switch (what) {
            case 0:
                return today.kinds[person];
            case 1:
                return today.works[person];
            case 2:
                return today.purses[person];
            case 3:
                return today.names[person];
            case 4:
                return today.insults[person];
            case 5:
                return today.slips[person];
            case 6:
                return today.earning(person, today.slips[person]);
            default:
                return finding(BEYOND);
        }
    }

    public int says(int person) {
        if (!today.has(person)) {
            return finding(BEYOND);
        }
        return 100 + today.saying(person, today.slips[person]);
    }

    public int set(int person, int what, int v) {
        if (!today.has(person)) {
            return finding(BEYOND);
        }
        switch (what) {
            case 1:
                return replace(today.works, person, v, MOST_WORK);
            case 2:
                return replace(today.purses, person, v, MOST_PURSE);
            case 3:
                return replace(today.names, person, v, MOST_NAME);
            case 4:
                return replace(today.insults, person, v, MOST_KEPT);
            default:
                return finding(BEYOND);
        }
    }

    public int turn(int person, int kind) {
        if (!today.has(person)) {
            return finding(BEYOND);
        }
        return replace(today.kinds, person, kind, KINDS - 1);
    }

    public int as(int person, int kind) {
        if (!today.has(person) || !isKind(kind)) {
            return finding(BEYOND);
        }
        if (!Ways.isUnder(today.kinds[person], kind)) {
            return finding(KIND);
        }
        return today.names[person];
    }

    // ---- lots, Fridays

    public int swap(int person, int other) {
        if (!today.has(person) || !today.has(other) || person == other) {
            return finding(BEYOND);
        }
        if (!today.areAlike(person, other)) {
            return finding(STATE);
        }
        today.exchange(person, other);
        return today.ownCount();
    }

    public int home() {
        int others = today.size - today.ownCount();
        today.goHome();
        return others;
    }

    public int draw() {
        today.drawLot();
        return today.ownCount();
    }

    public int seed(int v) {
        int was = today.z;
        today.z = v;
        return was;
    }

    public int fridays(int n) {
        if (n < 1 || n > MOST_FRIDAYS) {
            return finding(BEYOND);
        }
        if (today.friday + n > LAST_FRIDAY) {
            return finding(STATE);
        }
        today.passFridays(n);
        return today.total(today.purses);
    }

    public int season(int n) {
        if (n < 1 || n > MOST_SEASON) {
            return finding(BEYOND);
        }
        if (today.friday + n > LAST_FRIDAY) {
            return finding(STATE);
        }
        for (int i = 0; i < n; i++) {
            today.drawLot();
            today.passFriday();
        }
        return today.total(today.purses);
    }

    public int now(int what) {
        switch (what) {
            case 0:
                return today.friday;
            case 1:
                return today.total(today.purses);
            case 2:
                return today.childrenSet();
            case 3:
                return today.ownSet();
            case 4:
                return today.earnings();
            case 5:
                return today.isLotRight() ? 1 : 0;
            case 6:
                return today.total(today.insults);
            default:
                return finding(BEYOND);
        }
    }

    // ---- who is who

    public int who(int person) {
        if (!today.has(person)) {
            return finding(BEYOND);
        }
        return today.holder(person);
    }

    public int ring(int person) {
        if (!today.has(person)) {
            return finding(BEYOND);
        }
        return today.ringSet(person);
    }

    public int rings() {
        int seen = 0;
        int many = 0;
        for (int p = 0; p < today.size; p++) {
            if ((seen >> p & 1) == 0) {
                seen |= today.ringSet(p);
                many++;
            }
        }
        return many;
    }

    public int pairs() {
        int many = 0;
        for (int p = 0; p < today.size; p++) {
            int other = today.slips[p];
            if (other > p && today.slips[other] == p) {
                many++;
            }
        }
        return many;
    }

    public int on(int person, int n, int what) {
        if (!today.has(person) || n < 0 || n > MOST_FRIDAYS || what < 0 || what > 2) {
            return finding(BEYOND);
        }
        trial.become(today);
        trial.passFridays(n);
        switch (what) {
            case 0:
                return trial.purses[person];
            case 1:
                return trial.names[person];
            default:
                return trial.insults[person];
        }
    }

    public int itself(int person) {
        if (!today.has(person)) {
            return finding(BEYOND);
        }
        trial.become(today);
        for (int i = 1; i <= MOST_DRAWS; i++) {
            trial.drawLot();
            if (trial.slips[person] == person) {
                return i;
            }
        }
        return finding(NONE);
    }

    // ---- what is best

    public int most() {
        return best.search(today);
    }

    public int slip(int person) {
        if (!today.has(person)) {
            return finding(BEYOND);
        }
        best.search(today);
        return best.slipOf(person, today);
    }

    public int better() {
        int most = 0;
        int answer = -1;
        for (int p = 0; p < today.size; p++) {
            for (int q = p + 1; q < today.size; q++) {
                int more = today.areAlike(p, q) ? today.gainOfExchange(p, q) : 0;
                if (more > most) {
                    most = more;
                    answer = 10 * p + q;
                }
            }
        }
        return answer < 0 ? finding(NONE) : answer;
    }

    public int bestAs(int person) {
        if (!today.has(person)) {
            return finding(BEYOND);
        }
        int most = -1;
        int answer = -1;
        for (int p = 0; p < today.size; p++) {
            if (p != person && today.areAlike(p, person) && today.earning(p, person) > most) {
                most = today.earning(p, person);
                answer = p;
            }
        }
        return answer < 0 ? finding(NONE) : answer;
    }

    public int kind(int person) {
        if (!today.has(person)) {
            return finding(BEYOND);
        }
        int being = today.slips[person];
        int answer = 0;
        for (int k = 1; k < KINDS; k++) {
            if (today.earningAs(k, person, being) > today.earningAs(answer, person, being)) {
                answer = k;
            }
        }
        return answer;
    }

    public int odds(int what) {
        if (what < 0 || what > 1) {
            return finding(BEYOND);
        }
        int children = Integer.bitCount(today.childrenSet());
        int grown = today.size - children;
        int above = Chances.deranged(grown) * Chances.deranged(children);
        int below = Chances.ordered(grown) * Chances.ordered(children);
        int common = Math.max(1, Chances.commonDivisor(above, below));
        return (what == 0 ? above : below) / common;
    }

    public int lots(int k) {
        if (k < 0 || k > MOST_PEOPLE) {
            return finding(BEYOND);
        }
        int children = Integer.bitCount(today.childrenSet());
        int grown = today.size - children;
        int many = 0;
        for (int i = 0; i <= k; i++) {
            many += Chances.withOwn(grown, i) * Chances.withOwn(children, k - i);
        }
        return many;
    }

    // ---- the text

    public int feed(int bytes, int n) {
        if (n < 1 || n > MOST_FED) {
            return finding(BEYOND);
        }
        if (tape.size + n > MOST_TAPE) {
            return finding(FULL);
        }
        for (int i = n - 1; i >= 0; i--) {
            tape.add(bytes >>> 8 * i & 255);
        }
        return tape.size;
    }

    public int wipe() {
        int had = tape.size;
        tape.size = 0;
        return had;
    }

    public int village() {
        trial.become(today);
        int answer = text.tell(trial);
        if (answer >= 0) {
            today.become(trial);
        }
        tape.size = 0;
        return answer;
    }

    // ---- sheets

    public int sheet(int s, int bits, int n) {
        if (!isSheet(s) || bits != 0 && bits != 8 && bits != 16 && bits != 64) {
            return finding(BEYOND);
        }
        if (n < 0) {
            return finding(SIZE);
        }
        if (n > MOST_NUMBERS) {
            return finding(BEYOND);
        }
        return sheets[s].begin(bits, n);
    }

    public long write(int s, int i, long v) {
        if (!isSheet(s)) {
            return finding(BEYOND);
        }
        Sheet sheet = sheets[s];
        if (sheet.isMissing()) {
            return finding(MISSING);
        }
        if (i < 0 || i >= sheet.size) {
            return finding(BEYOND);
        }
        long was = sheet.numbers[i];
        sheet.put(i, v);
        return was;
    }

    public int copy(int s, int from, int t, int to, int n) {
        if (!isSheet(s) || !isSheet(t)) {
            return finding(BEYOND);
        }
        Sheet source = sheets[s];
        Sheet target = sheets[t];
        if (source.isMissing() || target.isMissing()) {
            return finding(MISSING);
        }
        if (source.bits != target.bits) {
            return finding(KIND);
        }
        if (!source.hasRun(from, n) || !target.hasRun(to, n)) {
            return finding(BEYOND);
        }
        System.arraycopy(source.numbers, from, target.numbers, to, n);
        return n;
    }

    public int lays(int s) {
        if (!isSheet(s)) {
            return finding(BEYOND);
        }
        Sheet sheet = sheets[s];
        if (sheet.isMissing()) {
            return finding(MISSING);
        }
        if (sheet.size != today.size) {
            return finding(SIZE);
        }
        if (!isRightLot(sheet)) {
            return finding(STATE);
        }
        for (int p = 0; p < today.size; p++) {
            today.slips[p] = (int) sheet.numbers[p];
        }
        return today.ownCount();
    }

    public int book(int s, int person) {
        if (!isSheet(s)) {
            return finding(BEYOND);
        }
        Sheet sheet = sheets[s];
        if (sheet.isMissing()) {
            return finding(MISSING);
        }
        if (!today.has(person)) {
            return finding(BEYOND);
        }
        trial.become(today);
        for (int i = 0; i < sheet.size; i++) {
            sheet.put(i, trial.purses[person]);
            trial.passFriday();
        }
        return sheet.size;
    }

    public int read(int s, int person) {
        if (!isSheet(s)) {
            return finding(BEYOND);
        }
        Sheet sheet = sheets[s];
        if (sheet.isMissing()) {
            return finding(MISSING);
        }
        if (!today.has(person)) {
            return finding(BEYOND);
        }
        int many = 0;
        for (int slip = 0; slip < today.size; slip++) {
            if (today.areAlike(slip, person) && fitsWith(person, slip, sheet)) {
                many++;
            }
        }
        return many;
    }

    // ---- images

    public int image() {
        latest.become(today);
        isKept = true;
        return 1;
    }

    public int undo() {
        if (!isKept) {
            return finding(NONE);
        }
        today.become(latest);
        return today.size;
    }

    public int tear() {
        int was = isKept ? 1 : 0;
        isKept = false;
        return was;
    }

    public int count(int what) {
        switch (what) {
            case 0:
                return today.size;
            case 1:
                return tape.size;
            case 2:
                return today.z;
            case 3:
                return today.total(today.names);
            default:
                return finding(BEYOND);
        }
    }

    public int status(int which) {
        if (which < -1 || which >= FINDINGS) {
            return finding(BEYOND);
        }
        if (which >= 0) {
            return found[which];
        }
        int all = 0;
        for (int i = 0; i < FINDINGS; i++) {
            all += found[i];
        }
        return all;
    }

    // ---- what the face leans on

    private int finding(int which) {
        found[which]++;
        return FIRST_FINDING - which;
    }

    private static boolean isKind(int kind) {
        return kind >= 0 && kind < KINDS;
    }

    private static boolean isSheet(int s) {
        return s >= 0 && s < SHEETS;
    }

    private int replace(int[] row, int person, int v, int most) {
        if (v < 0 || v > most) {
            return finding(BEYOND);
        }
        int was = row[person];
        row[person] = v;
        return was;
    }

    private boolean isRightLot(Sheet sheet) {
        int seen = 0;
        for (int p = 0; p < today.size; p++) {
            long slip = sheet.numbers[p];
            if (slip < 0 || slip >= today.size || !today.areAlike(p, (int) slip)) {
                return false;
            }
            seen |= 1 << (int) slip;
        }
        return Integer.bitCount(seen) == today.size;
    }

    /** Whether the next FRIDAY leaves the sheet's PURSES, if one had that SLIP. */
    private boolean fitsWith(int person, int slip, Sheet sheet) {
        trial.become(today);
        trial.exchange(person, trial.holder(slip));
        trial.passFriday();
        int asked = Math.min(sheet.size, trial.size);
        for (int p = 0; p < asked; p++) {
            if (sheet.numbers[p] != trial.purses[p]) {
                return false;
            }
        }
        return true;
    }

    /** How the KINDS go, for those who are somebody else. */
    private static final class Ways {
        private static final int[] ABOVE = {-1, VILLAGER, VILLAGER, VILLAGER, SMITH, SHY};

        static boolean isUnder(int kind, int upper) {
            int k = kind;
            for (int i = 0; i < KINDS && k >= 0; i++) {
                if (k == upper) {
                    return true;
                }
                k = ABOVE[k];
            }
            return false;
        }

        static int earned(int kind, int ownWork, int otherWork, int name, int insults) {
            int villager = (ownWork + otherWork) / 2;
            int smith = villager + 2;
            int shy = name < 50 ? villager + 4 : villager;
            switch (kind) {
                case SMITH:
                    return smith;
                case SHY:
                    return shy;
                case CHILD:
                    return 1;
                case PRIEST:
                    return Math.max(0, smith - insults / 4);
                case THIEF:
                    return 2 * shy;
                default:
                    return villager;
            }
        }

        static int said(int kind, int ownWork, int otherWork) {
            int villager = ownWork >= otherWork ? 1 : -1;
            switch (kind) {
                case SHY:
                    return 3;
                case CHILD:
                    return 0;
                case PRIEST:
                    return villager + 1;
                case THIEF:
                    return 3 - 5;
                default:
                    return villager;
            }
        }

        static int heard(int kind, int otherName) {
            int villager = otherName < 20 ? 2 : 0;
            switch (kind) {
                case SHY:
                case THIEF:
                    return 2 * villager;
                case CHILD:
                    return 0;
                case PRIEST:
                    return villager + 1;
                default:
                    return villager;
            }
        }
    }

    /** All that an image keeps. SLIPS are always an order of 0, 1, .. size - 1. */
    private static final class Village {
        private int friday;
        private int z = 1;
        private int size;
        private final int[] kinds = new int[MOST_PEOPLE];
        private final int[] works = new int[MOST_PEOPLE];
        private final int[] purses = new int[MOST_PEOPLE];
        private final int[] names = new int[MOST_PEOPLE];
        private final int[] insults = new int[MOST_PEOPLE];
        private final int[] slips = new int[MOST_PEOPLE];
        /** A FRIDAY goes by what is so as it begins, so it is reckoned for all before anything changes. */
        private final int[] earned = new int[MOST_PEOPLE];
        private final int[] said = new int[MOST_PEOPLE];
        private final int[] heard = new int[MOST_PEOPLE];
        private final int[] drawers = new int[MOST_PEOPLE];

        void become(Village other) {
            friday = other.friday;
            z = other.z;
            size = other.size;
            System.arraycopy(other.kinds, 0, kinds, 0, MOST_PEOPLE);
            System.arraycopy(other.works, 0, works, 0, MOST_PEOPLE);
            System.arraycopy(other.purses, 0, purses, 0, MOST_PEOPLE);
            System.arraycopy(other.names, 0, names, 0, MOST_PEOPLE);
            System.arraycopy(other.insults, 0, insults, 0, MOST_PEOPLE);
            System.arraycopy(other.slips, 0, slips, 0, MOST_PEOPLE);
        }

        boolean has(int p) {
            return p >= 0 && p < size;
        }

        boolean isFull() {
            return size >= MOST_PEOPLE;
        }

        int add(int kind) {
            int p = size;
            kinds[p] = kind;
            works[p] = 5;
            purses[p] = 10;
            names[p] = 50;
            insults[p] = 0;
            slips[p] = p;
            size++;
            return p;
        }

        boolean isChild(int p) {
            return kinds[p] == CHILD;
        }

        boolean areAlike(int p, int q) {
            return isChild(p) == isChild(q);
        }

        int earning(int p, int being) {
            return earningAs(kinds[p], p, being);
        }

        int earningAs(int kind, int p, int being) {
            return p == being ? 0 : Ways.earned(kind, works[p], works[being], names[p], insults[p]);
        }

        int saying(int p, int being) {
            return p == being ? 0 : Ways.said(kinds[p], works[p], works[being]);
        }

        int hearing(int p, int being) {
            return p == being ? 0 : Ways.heard(kinds[p], names[being]);
        }

        int earnings() {
            int sum = 0;
            for (int p = 0; p < size; p++) {
                sum += earning(p, slips[p]);
            }
            return sum;
        }

        int gainOfExchange(int p, int q) {
            int before = earning(p, slips[p]) + earning(q, slips[q]);
            return earning(p, slips[q]) + earning(q, slips[p]) - before;
        }

        int total(int[] row) {
            int sum = 0;
            for (int p = 0; p < size; p++) {
                sum += row[p];
            }
            return sum;
        }

        int childrenSet() {
            int bits = 0;
            for (int p = 0; p < size; p++) {
                if (isChild(p)) {
                    bits |= 1 << p;
                }
            }
            return bits;
        }

        int ownSet() {
            int bits = 0;
            for (int p = 0; p < size; p++) {
                if (slips[p] == p) {
                    bits |= 1 << p;
                }
            }
            return bits;
        }

        int ownCount() {
            return Integer.bitCount(ownSet());
        }

        int ringSet(int p) {
            int bits = 0;
            int at = p;
            for (int i = 0; i < size; i++) {
                bits |= 1 << at;
                at = slips[at];
            }
            return bits;
        }

        boolean isLotRight() {
            for (int p = 0; p < size; p++) {
                if (!areAlike(p, slips[p])) {
                    return false;
                }
            }
            return true;
        }

        int holder(int slip) {
            for (int p = 0; p < size; p++) {
                if (slips[p] == slip) {
                    return p;
                }
            }
            return slip;
        }

        void exchange(int p, int q) {
            int slip = slips[p];
            slips[p] = slips[q];
            slips[q] = slip;
        }

        void goHome() {
            for (int p = 0; p < size; p++) {
                slips[p] = p;
            }
        }

        void drawLot() {
            goHome();
            shuffle(false);
            shuffle(true);
        }

        private void shuffle(boolean children) {
            int many = 0;
            for (int p = 0; p < size; p++) {
                if (isChild(p) == children) {
                    drawers[many] = p;
                    many++;
                }
            }
            for (int i = many - 1; i >= 1; i--) {
                exchange(drawers[i], drawers[drawAmong(i + 1)]);
            }
        }

        private int drawAmong(int n) {
            z = z * 1103515245 + 12345;
            return n > 0 ? (z >>> 16) % n : 0;
        }

        void passFridays(int n) {
            for (int i = 0; i < n; i++) {
                passFriday();
            }
        }

        void passFriday() {
            for (int p = 0; p < size; p++) {
                earned[p] = earning(p, slips[p]);
                said[p] = saying(p, slips[p]);
                heard[p] = hearing(p, slips[p]);
            }
            for (int p = 0; p < size; p++) {
                int being = slips[p];
                purses[being] = Math.min(MOST_PURSE, purses[being] + earned[p]);
                names[being] = Math.max(0, Math.min(MOST_NAME, names[being] + said[p]));
                insults[p] = Math.min(MOST_KEPT, insults[p] + heard[p]);
            }
            friday++;
        }
    }

    /** Looks for the right LOT by which most comes in. */
    private static final class BestLot {
        /** For a set of SLIPS given to the first ones: the most that the others can EARN, or -1 if no right LOT is left. */
        private final int[] rest = new int[1 << MOST_PEOPLE];

        int search(Village v) {
            int all = (1 << v.size) - 1;
            rest[all] = 0;
            for (int given = all - 1; given >= 0; given--) {
                int p = Integer.bitCount(given);
                int most = -1;
                for (int slip = 0; slip < v.size; slip++) {
                    most = Math.max(most, mostWith(given, p, slip, v));
                }
                rest[given] = most;
            }
            return rest[0];
        }

        private int mostWith(int given, int p, int slip, Village v) {
            if ((given >> slip & 1) != 0 || !v.areAlike(p, slip)) {
                return -1;
            }
            int behind = rest[given | 1 << slip];
            return behind < 0 ? -1 : behind + v.earning(p, slip);
        }

        /** After search: each one in turn takes the least SLIP that still lets most come in. */
        int slipOf(int person, Village v) {
            int given = 0;
            int taken = person;
            for (int p = 0; p <= person; p++) {
                taken = leastBest(given, p, v);
                given |= 1 << taken;
            }
            return taken;
        }

        private int leastBest(int given, int p, Village v) {
            for (int slip = 0; slip < v.size; slip++) {
                if (rest[given] >= 0 && mostWith(given, p, slip, v) == rest[given]) {
                    return slip;
                }
            }
            return p;
        }
    }

    /** How many orders there are of a few. */
    private static final class Chances {
        private static final int[] ORDERED = {1, 1, 2, 6, 24, 120, 720, 5040, 40320};
        private static final int[] DERANGED = {1, 0, 1, 2, 9, 44, 265, 1854, 14833};

        static int ordered(int n) {
            return ORDERED[n];
        }

        static int deranged(int n) {
            return DERANGED[n];
        }

        /** Orders of n in which just k keep their place. */
        static int withOwn(int n, int k) {
            if (k > n) {
                return 0;
            }
            int sameChoice = Math.max(1, ORDERED[k] * ORDERED[n - k]);
            return ORDERED[n] / sameChoice * DERANGED[n - k];
        }

        static int commonDivisor(int a, int b) {
            int x = a;
            int y = b;
            for (int i = 0; i < 64 && y != 0; i++) {
                int left = x % y;
                x = y;
                y = left;
            }
            return x;
        }
    }

    private static final class Tape {
        private final int[] bytes = new int[MOST_TAPE];
        private int size;

        void add(int b) {
            bytes[size] = b;
            size++;
        }

        /** Behind the end there is a byte that begins no TOKEN and goes on with none. */
        int at(int place) {
            return place >= 0 && place < size ? bytes[place] : -1;
        }
    }

    /** Reads THE TEXT of a VILLAGE token by token; a FAULT is always at the token that is looked at. */
    private static final class VillageText {
        private static final int END = 0;
        private static final int WORD = 1;
        private static final int NUMBER = 2;
        private static final int SIGN = 3;
        private static final int OTHER = 4;
        private static final int TOO_MUCH = 1000;

        private final Tape tape = new Tape();
        private int start;
        private int end;
        private int sort;
        private int value;

        /** How many ITEMS came to the village, or -1 less the FAULT's place. */
        int tell(Village v) {
            end = 0;
            step();
            for (int items = 1; items <= MOST_TAPE; items++) {
                boolean taken = isWord("slip") ? takeSlip(v) : takePerson(v);
                if (!taken) {
                    break;
                }
                if (sort == END) {
                    return items;
                }
                if (sort != SIGN) {
                    break;
                }
                step();
            }
            return -1 - start;
        }

        private boolean takePerson(Village v) {
            int kind = namedKind();
            if (kind < 0 || v.isFull()) {
                return false;
            }
            int p = v.add(kind);
            step();
            return takePart("work", v.works, p, MOST_WORK)
                && takePart("purse", v.purses, p, MOST_TOLD_PURSE)
                && takePart("name", v.names, p, MOST_NAME);
        }

        private boolean takePart(String word, int[] row, int p, int most) {
            if (!isWord(word)) {
                return true;
            }
            step();
            if (sort != NUMBER || value > most) {
                return false;
            }
            row[p] = value;
            step();
            return true;
        }

        private boolean takeSlip(Village v) {
            step();
            if (sort != NUMBER || !v.has(value)) {
                return false;
            }
            int p = value;
            step();
            if (!isWord("is")) {
                return false;
            }
            step();
            if (sort != NUMBER || !v.has(value)) {
                return false;
            }
            v.exchange(p, v.holder(value));
            step();
            return true;
        }

        private int namedKind() {
            for (int kind = 0; kind < KINDS; kind++) {
                if (isWord(nameOf(kind))) {
                    return kind;
                }
            }
            return -1;
        }

        private static String nameOf(int kind) {
            switch (kind) {
                case SMITH:
                    return "smith";
                case SHY:
                    return "shy";
                case CHILD:
                    return "child";
                case PRIEST:
                    return "priest";
                case THIEF:
                    return "thief";
                default:
                    return "villager";
            }
        }

        private boolean isWord(String word) {
            if (sort != WORD || end - start != word.length()) {
                return false;
            }
            for (int i = 0; i < word.length(); i++) {
                if (tape.at(start + i) != word.charAt(i)) {
                    return false;
                }
            }
            return true;
        }

        private void step() {
            start = end;
            while (start < tape.size && tape.at(start) == ' ') {
                start++;
            }
            end = start;
            int first = tape.at(start);
            if (first < 0) {
                sort = END;
            } else if (isLetter(first)) {
                sort = WORD;
                passLetters();
            } else if (isDigit(first)) {
                sort = NUMBER;
                passDigits();
            } else {
                sort = first == ';' ? SIGN : OTHER;
                end++;
            }
        }

        private void passLetters() {
            while (end < tape.size && isLetter(tape.at(end))) {
                end++;
            }
        }

        private void passDigits() {
            value = 0;
            while (end < tape.size && isDigit(tape.at(end))) {
                value = Math.min(TOO_MUCH, 10 * value + tape.at(end) - '0');
                end++;
            }
        }

        private static boolean isLetter(int b) {
            return b >= 'a' && b <= 'z';
        }

        private static boolean isDigit(int b) {
            return b >= '0' && b <= '9';
        }
    }

    /** A row of numbers; 0 bits: it is MISSING. */
    private static final class Sheet {
        private final long[] numbers = new long[MOST_NUMBERS];
        private int bits;
        private int size;

        boolean isMissing() {
            return bits == 0;
        }

        int begin(int newBits, int n) {
            bits = newBits;
            size = newBits == 0 ? 0 : n;
            Arrays.fill(numbers, 0L);
            return size;
        }

        void put(int i, long v) {
            switch (bits) {
                case 8:
                    numbers[i] = (byte) v;
                    break;
                case 16:
                    numbers[i] = (short) v;
                    break;
                default:
                    numbers[i] = v;
                    break;
            }
        }

        /** Compared by what is left, since from and n together may be more than an int holds. */
        boolean hasRun(int from, int n) {
            return from >= 0 && n >= 0 && from <= size && n <= size - from;
        }
    }
}
