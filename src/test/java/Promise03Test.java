/** Promise 3: feeding a join. */
public final class Promise03Test {
    private static final Due DUE = new Due();

    public static void main(String[] args) {
        DUE.sentence("1. The policy is sealed: SEALED.", Promise03Test::sealed);
        DUE.sentence("2. n is not in 2..8,", Promise03Test::badN);
        DUE.sentence("or k is not in 1..n: BAD.", Promise03Test::badK);
        DUE.sentence("3. There are fewer than n roots: ROOTS.", Promise03Test::tooFewRoots);
        DUE.sentence("4. Otherwise the join token is appended,", Promise03Test::tokenIsAppended);
        DUE.sentence("the last n roots become one", Promise03Test::lastRootsBecomeOne);
        DUE.sentence("(the new last root,", Promise03Test::newLastRoot);
        DUE.sentence("true exactly when at least k of those n are true),", () -> Joins.atLeastK(DUE));
        DUE.sentence("and the answer is the number of roots there are now.", Promise03Test::answer);
        DUE.sentence("Earlier roots stay as they are.", Promise03Test::earlierRootsStay);
        DUE.sentence("The number of locks and their numbering do not change, nor what is held, nor the"
            + " clock.", Promise03Test::locksHeldAndClockStay);
        DUE.end();
    }

    private static PolicyScript fed(int locks) {
        PolicyScript x = new PolicyScript(8, 10, 10, 10);
        for (int i = 0; i < locks; i++) {
            x.lock(PolicyScript.HASH, i);
        }
        return x;
    }

    private static void sealed() {
        for (State state : State.sealedOnes()) {
            PolicyScript x = state.make();
            DUE.is("join of too few roots in " + state, x.join(1, 2), PolicyScript.SEALED);
            for (int n : Due.ints()) {
                DUE.is("join(1, " + n + ") in " + state, x.join(1, n), PolicyScript.SEALED);
                DUE.is("join(" + n + ", 2) in " + state, x.join(n, 2), PolicyScript.SEALED);
            }
            DUE.still(state, "join when sealed", x);
        }
    }

    private static void badN() {
        for (int locks = 0; locks <= 8; locks += 4) {
            PolicyScript x = fed(locks);
            for (int n : Due.intsOutside(2, 8)) {
                for (int k : new int[] {Integer.MIN_VALUE, -1, 0, 1, 2, 8, 9, n, Integer.MAX_VALUE}) {
                    DUE.is("join(" + k + ", " + n + ")", x.join(k, n), PolicyScript.BAD);
                }
            }
            DUE.same("after bad joins", State.future(x), State.future(fed(locks)));
        }
    }

    private static void badK() {
        for (int locks = 0; locks <= 8; locks += 4) {
            PolicyScript x = fed(locks);
            for (int n = 2; n <= 8; n++) {
                for (int k : Due.intsOutside(1, n)) {
                    DUE.is("join(" + k + ", " + n + ")", x.join(k, n), PolicyScript.BAD);
                }
            }
            DUE.same("after bad joins", State.future(x), State.future(fed(locks)));
        }
    }

    private static void tooFewRoots() {
        for (int n = 2; n <= 8; n++) {
            for (int locks = 0; locks < n; locks++) {
                PolicyScript x = fed(locks);
                for (int k = 1; k <= n; k++) {
                    DUE.is("join(" + k + ", " + n + ") of " + locks, x.join(k, n), PolicyScript.ROOTS);
                }
                DUE.same("after ROOTS", State.future(x), State.future(fed(locks)));
            }
            DUE.is("join(1, " + n + ") of just enough", fed(n).join(1, n), 1);
        }
        PolicyScript y = fed(4);
        y.join(1, 3);
        DUE.is("join(1, 3) of two roots and four locks", y.join(1, 3), PolicyScript.ROOTS);
        DUE.is("join(1, 2) of two roots", y.join(1, 2), 1);
        DUE.is("join(1, 2) of one root", y.join(1, 2), PolicyScript.ROOTS);
    }

    /** Of each size and, with seven joins of two, the longest policy there is. */
    private static void tokenIsAppended() {
        for (int n = 2; n <= 8; n++) {
            for (int k = 1; k <= n; k++) {
                PolicyScript x = fed(8);
                x.join(k, n);
                for (int i = 0; i < 16; i++) {
                    int join = i == 8 ? 256 + (k - 1) * 8 + (n - 1) : 0;
                    DUE.is("token(" + i + ")", x.token(i), i < 8 ? 128 + i : join);
                }
            }
        }
        PolicyScript y = fed(8);
        for (int i = 8; i < 15; i++) {
            y.join(2, 2);
            DUE.is("token(" + i + ")", y.token(i), 265);
            DUE.is("token(" + (i + 1) + ")", y.token(i + 1), 0);
        }
    }

    private static void lastRootsBecomeOne() {
        for (int n = 2; n <= 8; n++) {
            PolicyScript x = fed(8);
            x.join(n, n);
            DUE.is("status() after join(n, " + n + ")", x.status(), 64 * (9 - n));
        }
        Joins.lastRoots(DUE);
    }

    /** hash 0, (hash 1 or hash 2), then that and hash 3: the joined root comes before hash 3. */
    private static void newLastRoot() {
        PolicyScript x = fed(3);
        x.join(1, 2);
        x.lock(PolicyScript.HASH, 3);
        x.join(2, 2);
        x.join(1, 2);
        x.seal();
        for (int mask = 0; mask < 16; mask++) {
            boolean want = (mask & 1) != 0 || (mask & 8) != 0 && (mask & 6) != 0;
            Joins.isTrue(DUE, "hash 0 or (3 and (1 or 2))", x, mask, want);
        }
    }

    private static void answer() {
        for (int locks = 2; locks <= 8; locks++) {
            for (int n = 2; n <= locks; n++) {
                for (int k = 1; k <= n; k++) {
                    String call = "join(" + k + ", " + n + ") of " + locks;
                    DUE.is(call, fed(locks).join(k, n), locks - n + 1);
                }
            }
        }
        PolicyScript x = fed(8);
        for (int roots = 7; roots >= 1; roots--) {
            DUE.is("join(1, 2)", x.join(1, 2), roots);
        }
    }

    /** (0 or 1), 2, (3 and 4), (one of 5, 6, 7): at least j of these, the joins fed in between. */
    private static void earlierRootsStay() {
        for (int j = 1; j <= 4; j++) {
            PolicyScript x = fed(2);
            x.join(1, 2);
            for (int i = 2; i < 5; i++) {
                x.lock(PolicyScript.HASH, i);
            }
            x.join(2, 2);
            for (int i = 5; i < 8; i++) {
                x.lock(PolicyScript.HASH, i);
            }
            DUE.is("join(1, 3)", x.join(1, 3), 4);
            x.join(j, 4);
            x.seal();
            for (int mask = 0; mask < 256; mask++) {
                int roots = ((mask & 3) != 0 ? 1 : 0) + (mask >> 2 & 1)
                    + ((mask & 24) == 24 ? 1 : 0) + (mask > 31 ? 1 : 0);
                Joins.isTrue(DUE, j + " of four roots", x, mask, roots >= j);
            }
        }
    }

    private static void locksHeldAndClockStay() {
        PolicyScript x = new PolicyScript(5, 10, 10, 10);
        x.setTime(63);
        x.hold(PolicyScript.KEY, 7, true);
        x.hold(PolicyScript.HASH, 0, true);
        for (int i = 0; i < 4; i++) {
            x.lock(PolicyScript.HASH, i);
        }
        x.join(1, 4);
        DUE.is("clock and roots", x.status(), 63 + 64);
        DUE.same("held", Due.held(x), "0000000110000000");
        DUE.is("the lock after four", x.lock(PolicyScript.KEY, 7), 4);
        DUE.is("the lock after five", x.lock(PolicyScript.KEY, 7), PolicyScript.FULL);
        x.join(2, 2);
        DUE.is("the lock after five, joined", x.lock(PolicyScript.KEY, 7), PolicyScript.FULL);
        x.seal();
        x.satisfy();
        DUE.same("slots", Due.slots(x), "128 0 0 0 71 0 0 0");
    }
}
