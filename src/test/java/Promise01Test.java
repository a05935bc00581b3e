import java.util.TreeSet;

/** Promise 1: construction and the start. */
public final class Promise01Test {
    private static final Due DUE = new Due();

    public static void main(String[] args) {
        DUE.sentence("Public constants, all int", Promise01Test::constants);
        DUE.sentence("PolicyScript(locks, keyWeight, hashWeight, afterWeight) accepts every int for each"
            + " argument.", Promise01Test::everyInt);
        DUE.sentence("locks is the greatest number of locks in a policy, clamped into 2..8.",
            Promise01Test::locksAreClamped);
        DUE.sentence("keyWeight, hashWeight and afterWeight are the weight of each lock of kind KEY, HASH"
            + " and AFTER, each clamped into 1..99.", Promise01Test::weightsAreClamped);
        DUE.sentence("Clamped means: below the least becomes the least, above the greatest becomes the"
            + " greatest.", Promise01Test::atTheClamps);
        DUE.sentence("At the start there is an empty draft (no tokens, no locks, no roots), nothing is"
            + " held, and the clock is 0.", Promise01Test::start);
        DUE.sentence("The greatest number of locks and the three weights never change afterwards.",
            Promise01Test::neverChange);
        DUE.end();
    }

    private static void constants() {
        int[] seen = {PolicyScript.KEY, PolicyScript.HASH, PolicyScript.AFTER, PolicyScript.NONE,
            PolicyScript.SEALED, PolicyScript.BAD, PolicyScript.FULL, PolicyScript.ROOTS,
            PolicyScript.DRAFT, PolicyScript.UNSIGNED, PolicyScript.SIGNED, PolicyScript.ACCEPTED,
            PolicyScript.WRONG, PolicyScript.SHORT, PolicyScript.LOOSE};
        int[] due = {1, 2, 3, -1, -2, -3, -4, -5, -6, 0, 1, 1, 2, 3, 4};
        for (int i = 0; i < due.length; i++) {
            DUE.is("constant " + i, seen[i], due[i]);
        }
    }

    private static int clamped(int value, int least, int greatest) {
        return Math.max(least, Math.min(greatest, value));
    }

    private static int limitOf(PolicyScript x) {
        int locks = 0;
        while (locks < 20 && x.lock(PolicyScript.KEY, 0) == locks) {
            locks++;
        }
        DUE.is("lock past the greatest number", x.lock(PolicyScript.KEY, 0), PolicyScript.FULL);
        return locks;
    }

    /** Every secret is held and the time is 0, so the only lock is the whole witness. */
    private static int weightOf(PolicyScript x, int kind) {
        x.reopen();
        Due.holdAll(x);
        x.lock(kind, 0);
        x.seal();
        return x.satisfy();
    }

    private static void everyInt() {
        int[] few = {Integer.MIN_VALUE, -1, 0, 1, 2, 8, 9, 99, 100, Integer.MAX_VALUE};
        for (int locks : few) {
            for (int key : few) {
                for (int hash : few) {
                    for (int after : few) {
                        PolicyScript x = new PolicyScript(locks, key, hash, after);
                        String made = locks + ", " + key + ", " + hash + ", " + after;
                        DUE.is("limit of " + made, limitOf(x), clamped(locks, 2, 8));
                        DUE.is("key of " + made, weightOf(x, 1), clamped(key, 1, 99));
                        DUE.is("hash of " + made, weightOf(x, 2), clamped(hash, 1, 99));
                        DUE.is("after of " + made, weightOf(x, 3), clamped(after, 1, 99));
                    }
                }
            }
        }
    }

    private static void locksAreClamped() {
        for (int locks : Due.ints()) {
            int due = clamped(locks, 2, 8);
            DUE.is("limit of " + locks, limitOf(new PolicyScript(locks, 1, 1, 1)), due);
        }
    }

    private static void weightsAreClamped() {
        TreeSet<Integer> weights = Due.ints();
        for (int weight : weights) {
            int due = clamped(weight, 1, 99);
            DUE.is("key " + weight, weightOf(new PolicyScript(8, weight, 40, 41), 1), due);
            DUE.is("hash " + weight, weightOf(new PolicyScript(8, 40, weight, 41), 2), due);
            DUE.is("after " + weight, weightOf(new PolicyScript(8, 40, 41, weight), 3), due);
        }
    }

    private static void atTheClamps() {
        int[] locks = {Integer.MIN_VALUE, 1, 2, 3, 7, 8, 9, Integer.MAX_VALUE};
        int[] limits = {2, 2, 2, 3, 7, 8, 8, 8};
        for (int i = 0; i < locks.length; i++) {
            DUE.is("limit of " + locks[i], limitOf(new PolicyScript(locks[i], 1, 1, 1)), limits[i]);
        }
        int[] asked = {Integer.MIN_VALUE, 0, 1, 2, 98, 99, 100, Integer.MAX_VALUE};
        int[] weights = {1, 1, 1, 2, 98, 99, 99, 99};
        for (int i = 0; i < asked.length; i++) {
            PolicyScript x = new PolicyScript(8, asked[i], asked[i], asked[i]);
            for (int kind = 1; kind <= 3; kind++) {
                DUE.is("weight " + asked[i] + " of kind " + kind, weightOf(x, kind), weights[i]);
            }
        }
    }

    private static void start() {
        for (int arguments : new int[] {Integer.MIN_VALUE, 0, 5, Integer.MAX_VALUE}) {
            PolicyScript x = new PolicyScript(arguments, arguments, arguments, arguments);
            DUE.is("status() at the start", x.status(), 0);
            for (int i = 0; i < 16; i++) {
                DUE.is("token(" + i + ") at the start", x.token(i), 0);
            }
            DUE.same("slots at the start", Due.slots(x), "0 0 0 0 0 0 0 0");
            DUE.same("held at the start", Due.held(x), "0000000000000000");
            DUE.is("spend() at the start", x.spend(), PolicyScript.DRAFT);
            DUE.is("seal() at the start", x.seal(), PolicyScript.ROOTS);
            DUE.is("join(1, 2) at the start", x.join(1, 2), PolicyScript.ROOTS);
            DUE.is("setTime(3) at the start", x.setTime(3), 0);
            DUE.is("the first lock", x.lock(PolicyScript.KEY, 0), 0);
        }
    }

    private static void neverChange() {
        PolicyScript x = new PolicyScript(3, 11, 12, 13);
        for (int round = 0; round < 4; round++) {
            DUE.is("limit", limitOf(x), 3);
            x.join(3, 3);
            x.seal();
            x.setTime(20 * round);
            x.satisfy();
            x.malleate();
            x.place(0, 0, 0);
            DUE.is("weight of a key", weightOf(x, 1), 11);
            DUE.is("weight of a hash", weightOf(x, 2), 12);
            DUE.is("weight of a time", weightOf(x, 3), 13);
            x.reopen();
        }
    }
}
