/** Promise 2: feeding a lock. */
public final class Promise02Test {
    private static final Due DUE = new Due();

    public static void main(String[] args) {
        everyFitPair();
        unfitPairs();
        fullDraft();
        sealedPolicy();
        twice();
        DUE.end();
    }

    private static void everyFitPair() {
        for (int kind = 1; kind <= 3; kind++) {
            int most = kind == PolicyScript.AFTER ? 63 : 7;
            for (int number = 0; number <= most; number++) {
                PolicyScript x = new PolicyScript(2, 1, 1, 1);
                x.setTime(9);
                DUE.is("lock(" + kind + ", " + number + ")", x.lock(kind, number), 0);
                DUE.is("token(0)", x.token(0), kind * 64 + number);
                DUE.is("status()", x.status(), 64 + 9);
                DUE.same("held", Due.held(x), "0000000000000000");
            }
        }
    }

    private static void unfitPairs() {
        int[][] pairs = {{0, 0}, {4, 0}, {-1, 0}, {1, -1}, {1, 8}, {2, -1}, {2, 8}, {3, -1}, {3, 64},
            {1, 63}, {2, 63}, {5, 1}, {Integer.MIN_VALUE, 0}, {Integer.MAX_VALUE, 0},
            {1, Integer.MIN_VALUE}, {2, Integer.MAX_VALUE}, {3, Integer.MIN_VALUE},
            {3, Integer.MAX_VALUE}};
        PolicyScript x = new PolicyScript(2, 1, 1, 1);
        for (int fed = 0; fed <= 2; fed++) {
            String before = Due.view(x);
            for (int[] pair : pairs) {
                int got = x.lock(pair[0], pair[1]);
                DUE.refused("lock(" + pair[0] + ", " + pair[1] + ")", x, before, got, PolicyScript.BAD);
            }
            x.lock(PolicyScript.KEY, fed);
        }
    }

    private static void fullDraft() {
        PolicyScript x = new PolicyScript(3, 1, 1, 1);
        DUE.is("first lock", x.lock(1, 7), 0);
        DUE.is("second lock", x.lock(2, 7), 1);
        DUE.is("third lock", x.lock(3, 63), 2);
        String before = Due.view(x);
        DUE.refused("fourth lock", x, before, x.lock(1, 1), PolicyScript.FULL);
        x.join(1, 3);
        before = Due.view(x);
        DUE.refused("lock after the join", x, before, x.lock(1, 1), PolicyScript.FULL);
    }

    private static void sealedPolicy() {
        PolicyScript x = new PolicyScript(2, 1, 1, 1);
        x.lock(1, 0);
        x.seal();
        String before = Due.view(x);
        DUE.refused("lock when sealed", x, before, x.lock(1, 1), PolicyScript.SEALED);
        DUE.refused("unfit lock when sealed", x, before, x.lock(0, 0), PolicyScript.SEALED);
    }

    private static void twice() {
        PolicyScript x = new PolicyScript(8, 10, 1, 1);
        x.hold(1, 4, true);
        DUE.is("lock(1, 4)", x.lock(1, 4), 0);
        DUE.is("lock(1, 4) again", x.lock(1, 4), 1);
        x.join(2, 2);
        x.seal();
        DUE.is("satisfy() with both", x.satisfy(), 20);
        DUE.same("both slots", Due.slots(x), "68 68 0 0 0 0 0 0");
    }
}
