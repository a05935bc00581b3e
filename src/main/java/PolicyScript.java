/**
 * A spending policy of signatures, hashes and time locks that makes and judges witnesses.
 *
 * <p>A set of locks is an int, its mask: bit i stands for lock i. The empty set is never TRUE, so
 * where a TRUE set is looked for, 0 stands for "there is none".
 */
public final class PolicyScript {
    public static final int KEY = 1;
    public static final int HASH = 2;
    public static final int AFTER = 3;

    public static final int NONE = -1;
    public static final int SEALED = -2;
    public static final int BAD = -3;
    public static final int FULL = -4;
    public static final int ROOTS = -5;
    public static final int DRAFT = -6;

    public static final int UNSIGNED = 0;
    public static final int SIGNED = 1;

    public static final int ACCEPTED = 1;
    public static final int WRONG = 2;
    public static final int SHORT = 3;
    public static final int LOOSE = 4;

    private static final int LEAST_LOCKS = 2;
    private static final int MOST_LOCKS = 8;
    // Every join leaves at least one root fewer, so 8 locks leave room for 7 joins.
    private static final int MOST_TOKENS = 15;
    private static final int LEAST_WEIGHT = 1;
    private static final int MOST_WEIGHT = 99;

    private static final int SECRETS_OF_A_KIND = 8;
    private static final int LAST_TIME = 63;
    private static final int EMPTY = 0;

    private static final int CODES_OF_A_KIND = 64;
    private static final int FIRST_JOIN_CODE = 256;
    private static final int JOIN_SIZES = 8;
    private static final int LEAST_JOINED = 2;
    private static final int MOST_JOINED = 8;

    private static final int STATUS_ROOT = 64;
    private static final int STATUS_SEALED = 1024;

    private final int lockLimit;
    private final int keyWeight;
    private final int hashWeight;
    private final int afterWeight;

    private final int[] tokens = new int[MOST_TOKENS];
    private int tokenCount = 0;
    private final int[] lockCodes = new int[MOST_LOCKS];
    private int lockCount = 0;
    private int rootCount = 0;
    private boolean sealed = false;
    private final int[] slots = new int[MOST_LOCKS];

    private int heldSecrets = 0;
    private int clock = 0;

    public PolicyScript(int locks, int keyWeight, int hashWeight, int afterWeight) {
        this.lockLimit = clamp(locks, LEAST_LOCKS, MOST_LOCKS);
        this.keyWeight = clamp(keyWeight, LEAST_WEIGHT, MOST_WEIGHT);
        this.hashWeight = clamp(hashWeight, LEAST_WEIGHT, MOST_WEIGHT);
        this.afterWeight = clamp(afterWeight, LEAST_WEIGHT, MOST_WEIGHT);
    }

    public int lock(int kind, int number) {
        if (sealed) {
            return SEALED;
        }
        if (!isFitPair(kind, number)) {
            return BAD;
        }
        if (lockCount >= lockLimit) {
            return FULL;
        }
        int added = lockCount;
        int code = codeOf(kind, number);
        lockCodes[added] = code;
        lockCount++;
        rootCount++;
        appendToken(code);
        return added;
    }

    public int join(int k, int n) {
        if (sealed) {
            return SEALED;
        }
        if (n < LEAST_JOINED || n > MOST_JOINED || k < 1 || k > n) {
            return BAD;
        }
        if (rootCount < n) {
            return ROOTS;
        }
        appendToken(FIRST_JOIN_CODE + (k - 1) * JOIN_SIZES + (n - 1));
        rootCount = rootCount - n + 1;
        return rootCount;
    }

    public int seal() {
        if (sealed) {
            return SEALED;
        }
        if (rootCount != 1) {
            return ROOTS;
        }
        sealed = true;
        fillSlots(0);
        int keyless = keylessLocks();
        return isTrue(keyless) ? UNSIGNED : SIGNED;
    }

    // The slots of a draft are never read, and sealing empties them.
    public void reopen() {
        tokenCount = 0;
        lockCount = 0;
        rootCount = 0;
        sealed = false;
    }

    public int hold(int kind, int number, boolean have) {
        if (!isSecret(kind, number)) {
            return BAD;
        }
        if (isHeld(kind, number) == have) {
            return 0;
        }
        heldSecrets ^= secretBit(kind, number);
        return 1;
    }

    public int holds(int kind, int number) {
        if (!isSecret(kind, number)) {
            return BAD;
        }
        return isHeld(kind, number) ? 1 : 0;
    }

    public int setTime(int time) {
        if (time < 0 || time > LAST_TIME) {
            return BAD;
        }
        int before = clock;
        clock = time;
        return before;
    }

    public int satisfy() {
        if (!sealed) {
            return DRAFT;
        }
        int available = ownersLocks(clock);
        int best = bestTrueSubset(available);
        return takeAsWitness(best);
    }

    public int malleate() {
        if (!sealed) {
            return DRAFT;
        }
        int available = onlookersLocks();
        int filled = filledLocks();
        int best = bestMinimalSubset(available, filled);
        return takeAsWitness(best);
    }

    public int variants() {
        if (!sealed) {
            return DRAFT;
        }
        int available = onlookersLocks();
        int count = 0;
        for (int set = 1; set < (1 << lockCount); set++) {
            if (isSubset(set, available) && isMinimal(set)) {
                count++;
            }
        }
        return count;
    }

    public int place(int lock, int kind, int number) {
        if (!sealed) {
            return DRAFT;
        }
        if (lock < 0 || lock >= lockCount) {
            return BAD;
        }
        if (kind == 0) {
            slots[lock] = EMPTY;
            return 0;
        }
        if (!isFitPair(kind, number)) {
            return BAD;
        }
        if (kind != AFTER && !isHeld(kind, number)) {
            return NONE;
        }
        slots[lock] = codeOf(kind, number);
        return lockFits(lock) ? 1 : 0;
    }

    public int spend() {
        if (!sealed) {
            return DRAFT;
        }
        int filled = filledLocks();
        if (!allFit(filled)) {
            return WRONG;
        }
        if (!isTrue(filled)) {
            return SHORT;
        }
        if (!isMinimal(filled)) {
            return LOOSE;
        }
        return ACCEPTED;
    }

    public int earliest() {
        if (!sealed) {
            return DRAFT;
        }
        for (int time = 0; time <= LAST_TIME; time++) {
            int available = ownersLocks(time);
            if (isTrue(available)) {
                return time;
            }
        }
        return NONE;
    }

    public int slot(int lock) {
        if (!sealed || lock < 0 || lock >= lockCount) {
            return EMPTY;
        }
        return slots[lock];
    }

    public int token(int index) {
        if (index < 0 || index >= tokenCount) {
            return 0;
        }
        return tokens[index];
    }

    public int status() {
        int draftStatus = clock + STATUS_ROOT * rootCount;
        return sealed ? draftStatus + STATUS_SEALED : draftStatus;
    }

    private static int clamp(int value, int least, int most) {
        if (value < least) {
            return least;
        }
        return value > most ? most : value;
    }

    private static boolean isSecret(int kind, int number) {
        return (kind == KEY || kind == HASH) && number >= 0 && number < SECRETS_OF_A_KIND;
    }

    private static boolean isFitPair(int kind, int number) {
        if (kind == AFTER) {
            return number >= 0 && number <= LAST_TIME;
        }
        return isSecret(kind, number);
    }

    private static int codeOf(int kind, int number) {
        return kind * CODES_OF_A_KIND + number;
    }

    private static int kindOf(int code) {
        return code / CODES_OF_A_KIND;
    }

    private static int numberOf(int code) {
        return code % CODES_OF_A_KIND;
    }

    private static int secretBit(int kind, int number) {
        return 1 << ((kind - KEY) * SECRETS_OF_A_KIND + number);
    }

    private boolean isHeld(int kind, int number) {
        return (heldSecrets & secretBit(kind, number)) != 0;
    }

    // The count never passes the bound; it is looked at so that no call can run off the array.
    private void appendToken(int code) {
        if (tokenCount < MOST_TOKENS) {
            tokens[tokenCount] = code;
            tokenCount++;
        }
    }

    private static boolean contains(int set, int lock) {
        return ((set >> lock) & 1) == 1;
    }

    private static boolean isSubset(int set, int ofSet) {
        return (set & ~ofSet) == 0;
    }

    /** Runs the tokens with the roots as bits of one int, the last root lowest. */
    private boolean isTrue(int set) {
        int roots = 0;
        int lock = 0;
        for (int i = 0; i < tokenCount; i++) {
            int code = tokens[i];
            if (code < FIRST_JOIN_CODE) {
                roots = (roots << 1) | ((set >> lock) & 1);
                lock++;
            } else {
                roots = joinLastRoots(roots, code);
            }
        }
        return roots == 1;
    }

    private static int joinLastRoots(int roots, int joinCode) {
        int k = (joinCode - FIRST_JOIN_CODE) / JOIN_SIZES + 1;
        int n = (joinCode - FIRST_JOIN_CODE) % JOIN_SIZES + 1;
        int trueOnes = 0;
        for (int i = 0; i < n; i++) {
            trueOnes += (roots >> i) & 1;
        }
        int joined = trueOnes >= k ? 1 : 0;
        return ((roots >> n) << 1) | joined;
    }

    private boolean isMinimal(int set) {
        if (!isTrue(set)) {
            return false;
        }
        for (int i = 0; i < lockCount; i++) {
            if (contains(set, i) && isTrue(set & ~(1 << i))) {
                return false;
            }
        }
        return true;
    }

    private int weightOfKind(int kind) {
        if (kind == KEY) {
            return keyWeight;
        }
        return kind == HASH ? hashWeight : afterWeight;
    }

    private int weightOf(int set) {
        int weight = 0;
        for (int i = 0; i < lockCount; i++) {
            if (contains(set, i)) {
                int kind = kindOf(lockCodes[i]);
                weight += weightOfKind(kind);
            }
        }
        return weight;
    }

    private boolean isBetter(int set, int other) {
        int weight = weightOf(set);
        int otherWeight = weightOf(other);
        return weight < otherWeight || (weight == otherWeight && set < other);
    }

    private int bestTrueSubset(int available) {
        int best = 0;
        for (int set = 1; set < (1 << lockCount); set++) {
            if (isSubset(set, available) && isTrue(set) && (best == 0 || isBetter(set, best))) {
                best = set;
            }
        }
        return best;
    }

    private int bestMinimalSubset(int available, int excluded) {
        int best = 0;
        for (int set = 1; set < (1 << lockCount); set++) {
            if (set != excluded && isSubset(set, available) && isMinimal(set)
                    && (best == 0 || isBetter(set, best))) {
                best = set;
            }
        }
        return best;
    }

    private int takeAsWitness(int set) {
        if (set == 0) {
            return NONE;
        }
        fillSlots(set);
        return weightOf(set);
    }

    private int keylessLocks() {
        int set = 0;
        for (int i = 0; i < lockCount; i++) {
            if (kindOf(lockCodes[i]) != KEY) {
                set |= 1 << i;
            }
        }
        return set;
    }

    private int ownersLocks(int time) {
        int set = 0;
        for (int i = 0; i < lockCount; i++) {
            int kind = kindOf(lockCodes[i]);
            int number = numberOf(lockCodes[i]);
            boolean has = kind == AFTER ? number <= time : isHeld(kind, number);
            if (has) {
                set |= 1 << i;
            }
        }
        return set;
    }

    private int onlookersLocks() {
        int set = 0;
        for (int i = 0; i < lockCount; i++) {
            if (onlookerHas(lockCodes[i])) {
                set |= 1 << i;
            }
        }
        return set;
    }

    /** An onlooker can copy a signature that the witness shows, but can make none. */
    private boolean onlookerHas(int code) {
        int kind = kindOf(code);
        if (kind == KEY) {
            return isInSomeSlot(code);
        }
        return kind == HASH || numberOf(code) <= clock;
    }

    private boolean isInSomeSlot(int code) {
        for (int i = 0; i < lockCount; i++) {
            if (slots[i] == code) {
                return true;
            }
        }
        return false;
    }

    private int filledLocks() {
        int set = 0;
        for (int i = 0; i < lockCount; i++) {
            if (slots[i] != EMPTY) {
                set |= 1 << i;
            }
        }
        return set;
    }

    private boolean lockFits(int lock) {
        int code = lockCodes[lock];
        if (slots[lock] != code) {
            return false;
        }
        return kindOf(code) != AFTER || numberOf(code) <= clock;
    }

    private boolean allFit(int set) {
        for (int i = 0; i < lockCount; i++) {
            if (contains(set, i) && !lockFits(i)) {
                return false;
            }
        }
        return true;
    }

    private void fillSlots(int set) {
        for (int i = 0; i < lockCount; i++) {
            slots[i] = contains(set, i) ? lockCodes[i] : EMPTY;
        }
    }
}
