/** Promise 2: feeding a lock. */
public final class Promise02Test {
    private static final Due DUE = new Due();

    public static void main(String[] args) {
        DUE.sentence("1. The policy is sealed: SEALED.", Promise02Test::sealed);
        DUE.sentence("2. (kind, number) is not a fit pair: BAD.", Promise02Test::unfit);
        DUE.sentence("3. The draft already has the greatest number of locks: FULL.",
            Promise02Test::full);
        DUE.sentence("4. Otherwise the lock token is appended, with the code of (kind, number);",
            Promise02Test::tokenIsAppended);
        DUE.sentence("there is one root more, which is the last root;", Promise02Test::oneRootMore);
        DUE.sentence("the answer is the number of the new lock (from 0).", Promise02Test::answer);
        DUE.sentence("A kind and number already fed is fed again as a further, different lock.",
            Promise02Test::fedAgain);
        DUE.sentence("What is held and the clock have no influence and do not change.",
            Promise02Test::heldAndClock);
        DUE.end();
    }

    private static void sealed() {
        for (State state : State.sealedOnes()) {
            PolicyScript x = state.make();
            for (int kind = 1; kind <= 3; kind++) {
                DUE.is("lock(" + kind + ", 0) in " + state, x.lock(kind, 0), PolicyScript.SEALED);
                DUE.is("lock(" + kind + ", 7) in " + state, x.lock(kind, 7), PolicyScript.SEALED);
            }
            for (int[] pair : Due.unfitPairs()) {
                DUE.is("unfit lock in " + state, x.lock(pair[0], pair[1]), PolicyScript.SEALED);
            }
            DUE.still(state, "lock when sealed", x);
        }
        PolicyScript y = Due.hashes(1, 2);
        DUE.is("lock when sealed and not full", y.lock(1, 0), PolicyScript.SEALED);
    }

    private static void unfit() {
        for (State state : State.drafts()) {
            PolicyScript x = state.make();
            for (int[] pair : Due.unfitPairs()) {
                String call = "lock(" + pair[0] + ", " + pair[1] + ") in " + state;
                DUE.is(call, x.lock(pair[0], pair[1]), PolicyScript.BAD);
            }
            DUE.still(state, "unfit locks", x);
        }
    }

    private static void full() {
        for (int limit = 2; limit <= 8; limit++) {
            PolicyScript x = new PolicyScript(limit, 1, 1, 1);
            for (int i = 0; i < limit; i++) {
                DUE.is("lock " + i + " of " + limit, x.lock(PolicyScript.HASH, 0), i);
            }
            String before = Due.view(x);
            for (int kind = 1; kind <= 3; kind++) {
                DUE.is("lock past " + limit, x.lock(kind, 7), PolicyScript.FULL);
            }
            DUE.same("after FULL", Due.view(x), before);
            DUE.is("join of all", x.join(limit, limit), 1);
            before = Due.view(x);
            DUE.is("lock past " + limit + " joined", x.lock(1, 0), PolicyScript.FULL);
            DUE.same("after FULL", Due.view(x), before);
        }
        for (State state : new State[] {State.FULL_DRAFT, State.JOINED_DRAFT}) {
            PolicyScript x = state.make();
            DUE.is("lock in " + state, x.lock(PolicyScript.AFTER, 63), PolicyScript.FULL);
            DUE.still(state, "lock", x);
        }
    }

    private static void tokenIsAppended() {
        for (int kind = 1; kind <= 3; kind++) {
            for (int number = 0; number <= (kind == 3 ? 63 : 7); number++) {
                PolicyScript x = State.TWO_ROOTS.make();
                x.lock(kind, number);
                DUE.is("token(0)", x.token(0), 64);
                DUE.is("token(1)", x.token(1), 65);
                DUE.is("token(2)", x.token(2), kind * 64 + number);
                DUE.is("token(3)", x.token(3), 0);
            }
        }
    }

    /** One of seven, the last of them being the two last locks joined by "and". */
    private static void oneRootMore() {
        PolicyScript x = new PolicyScript(8, 3, 2, 1);
        for (int roots = 1; roots <= 8; roots++) {
            x.lock(PolicyScript.HASH, roots - 1);
            DUE.is("status()", x.status(), 64 * roots);
        }
        x.join(2, 2);
        x.lock(PolicyScript.HASH, 0);
        DUE.is("status() after FULL", x.status(), 64 * 7);
        x.join(1, 7);
        x.seal();
        x.hold(PolicyScript.HASH, 7, true);
        DUE.is("earliest() with the last", x.earliest(), PolicyScript.NONE);
        x.hold(PolicyScript.HASH, 6, true);
        DUE.is("earliest() with the last two", x.earliest(), 0);
    }

    private static void answer() {
        PolicyScript x = new PolicyScript(8, 1, 1, 1);
        for (int round = 0; round < 2; round++) {
            for (int i = 0; i < 8; i++) {
                DUE.is("lock " + i, x.lock(1 + i % 3, i), i);
                DUE.is("an unfit lock", x.lock(1 + i % 3, 64), PolicyScript.BAD);
                if (i % 3 == 1) {
                    x.join(1, 2);
                }
            }
            x.reopen();
        }
    }

    private static void fedAgain() {
        for (int kind = 1; kind <= 3; kind++) {
            PolicyScript x = new PolicyScript(8, 10, 10, 10);
            for (int i = 0; i < 8; i++) {
                DUE.is("lock(" + kind + ", 4) again", x.lock(kind, 4), i);
                DUE.is("status()", x.status(), 64 * (i + 1));
            }
            x.join(8, 8);
            x.seal();
            Due.holdAll(x);
            x.setTime(4);
            DUE.is("satisfy() with all eight", x.satisfy(), 80);
            DUE.is("spend() with all eight", x.spend(), PolicyScript.ACCEPTED);
            x.place(3, 0, 0);
            DUE.is("spend() without the fourth", x.spend(), PolicyScript.SHORT);
        }
    }

    private static void heldAndClock() {
        for (int clock = 0; clock <= 63; clock += 21) {
            for (int held = 0; held < 2; held++) {
                PolicyScript x = new PolicyScript(8, 1, 1, 1);
                x.setTime(clock);
                if (held == 1) {
                    Due.holdAll(x);
                }
                String before = Due.held(x);
                for (int kind = 1; kind <= 3; kind++) {
                    DUE.is("lock(" + kind + ", 7)", x.lock(kind, 7), kind - 1);
                    DUE.is("status()", x.status(), clock + 64 * kind);
                    DUE.is("token", x.token(kind - 1), kind * 64 + 7);
                    DUE.same("held", Due.held(x), before);
                }
            }
        }
    }
}
