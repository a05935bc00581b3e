/** Promise 3: feeding a join. */
public final class Promise03Test {
    private static final Due DUE = new Due();

    public static void main(String[] args) {
        everyJoin();
        badJoins();
        tooFewRoots();
        sealedPolicy();
        lastRootsAreTaken();
        longestPolicy();
        DUE.end();
    }

    private static PolicyScript fed(int locks) {
        PolicyScript x = new PolicyScript(8, 10, 10, 10);
        for (int i = 0; i < locks; i++) {
            x.lock(PolicyScript.HASH, i);
        }
        return x;
    }

    /** Each join is true from k held hashes on, whichever these are. */
    private static void everyJoin() {
        for (int n = 2; n <= 8; n++) {
            for (int k = 1; k <= n; k++) {
                PolicyScript x = fed(n);
                String call = "join(" + k + ", " + n + ")";
                DUE.is(call, x.join(k, n), 1);
                DUE.is("token after " + call, x.token(n), 256 + (k - 1) * 8 + (n - 1));
                x.seal();
                for (int i = n - 1; i >= 0; i--) {
                    int held = n - 1 - i;
                    DUE.is(call + " with " + held, x.earliest(), held >= k ? 0 : PolicyScript.NONE);
                    x.hold(PolicyScript.HASH, i, true);
                }
                DUE.is(call + " with all", x.earliest(), 0);
            }
        }
    }

    private static void badJoins() {
        int[][] pairs = {{0, 2}, {-1, 2}, {3, 2}, {1, 1}, {1, 0}, {0, 0}, {-1, -1}, {1, 9}, {9, 9},
            {9, 8}, {0, 8}, {Integer.MIN_VALUE, 2}, {Integer.MAX_VALUE, 2}, {1, Integer.MIN_VALUE},
            {1, Integer.MAX_VALUE}, {Integer.MIN_VALUE, Integer.MIN_VALUE}};
        for (int locks = 0; locks <= 8; locks += 4) {
            PolicyScript x = fed(locks);
            String before = Due.view(x);
            for (int[] pair : pairs) {
                int got = x.join(pair[0], pair[1]);
                DUE.refused("join(" + pair[0] + ", " + pair[1] + ")", x, before, got, PolicyScript.BAD);
            }
        }
    }

    private static void tooFewRoots() {
        for (int n = 2; n <= 8; n++) {
            for (int locks = 0; locks < n; locks++) {
                PolicyScript x = fed(locks);
                String before = Due.view(x);
                DUE.refused("join of too few", x, before, x.join(n, n), PolicyScript.ROOTS);
                DUE.refused("join of too few", x, before, x.join(1, n), PolicyScript.ROOTS);
            }
        }
        PolicyScript x = fed(4);
        x.join(1, 3);
        String before = Due.view(x);
        DUE.refused("join after a join", x, before, x.join(1, 3), PolicyScript.ROOTS);
    }

    private static void sealedPolicy() {
        PolicyScript x = Due.hashes(1, 2);
        String before = Due.view(x);
        DUE.refused("join when sealed", x, before, x.join(1, 2), PolicyScript.SEALED);
        DUE.refused("bad join when sealed", x, before, x.join(0, 0), PolicyScript.SEALED);
    }

    /** hash 0 and (hash 1 or hash 2): a join that took the first roots would be another policy. */
    private static void lastRootsAreTaken() {
        PolicyScript x = fed(3);
        x.setTime(5);
        x.hold(PolicyScript.HASH, 6, true);
        DUE.is("join(1, 2)", x.join(1, 2), 2);
        DUE.is("status()", x.status(), 5 + 2 * 64);
        DUE.is("lock after a join", x.lock(PolicyScript.HASH, 3), 3);
        DUE.is("join(1, 2) again", x.join(1, 2), 2);
        DUE.is("join(2, 2)", x.join(2, 2), 1);
        DUE.same("held", Due.held(x), "0000000000000010");
        x.seal();
        x.hold(PolicyScript.HASH, 1, true);
        x.hold(PolicyScript.HASH, 2, true);
        x.hold(PolicyScript.HASH, 3, true);
        DUE.is("satisfy() without hash 0", x.satisfy(), PolicyScript.NONE);
        x.hold(PolicyScript.HASH, 1, false);
        x.hold(PolicyScript.HASH, 2, false);
        x.hold(PolicyScript.HASH, 0, true);
        DUE.is("satisfy() with 0 and 3", x.satisfy(), 20);
    }

    private static void longestPolicy() {
        PolicyScript x = fed(8);
        for (int i = 0; i < 7; i++) {
            DUE.is("join " + i, x.join(2, 2), 7 - i);
        }
        for (int i = 8; i < 15; i++) {
            DUE.is("token(" + i + ")", x.token(i), 265);
        }
        x.seal();
        for (int i = 0; i < 8; i++) {
            DUE.is("earliest() with " + i, x.earliest(), PolicyScript.NONE);
            x.hold(PolicyScript.HASH, i, true);
        }
        DUE.is("satisfy() with all", x.satisfy(), 80);
    }
}
