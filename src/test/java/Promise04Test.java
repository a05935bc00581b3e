/** Promise 4: sealing. */
public final class Promise04Test {
    private static final Due DUE = new Due();

    public static void main(String[] args) {
        DUE.sentence("1. The policy is sealed: SEALED.", Promise04Test::sealed);
        DUE.sentence("2. The number of roots is not exactly 1 (an empty draft has 0): ROOTS.",
            Promise04Test::rootsMustBeOne);
        DUE.sentence("The draft stays as it was and can be fed further.",
            Promise04Test::draftCanBeFedFurther);
        DUE.sentence("3. Otherwise the policy is sealed", Promise04Test::becomesSealed);
        DUE.sentence("and all slots are empty.", Promise04Test::slotsAreEmpty);
        DUE.sentence("The answer is UNSIGNED if the set of all its HASH and AFTER locks is TRUE, and"
            + " SIGNED if not.", Promise04Test::signedOrNot);
        DUE.sentence("whatever is held and whatever the clock", Promise04Test::heldAndClockHaveNoSay);
        DUE.sentence("A single lock without any join can be sealed.", Promise04Test::singleLock);
        DUE.sentence("Tokens, locks, what is held and the clock do not change.",
            Promise04Test::allElseStays);
        DUE.end();
    }

    private static void sealed() {
        for (State state : State.sealedOnes()) {
            PolicyScript x = state.make();
            DUE.is("seal() in " + state, x.seal(), PolicyScript.SEALED);
            DUE.is("seal() again in " + state, x.seal(), PolicyScript.SEALED);
            DUE.still(state, "seal()", x);
        }
    }

    private static void rootsMustBeOne() {
        for (int roots = 0; roots <= 8; roots++) {
            PolicyScript x = new PolicyScript(8, 1, 1, 1);
            for (int i = 0; i < roots; i++) {
                x.lock(PolicyScript.KEY, 0);
            }
            String before = Due.view(x);
            DUE.is("seal() of " + roots, x.seal(), roots == 1 ? PolicyScript.SIGNED : PolicyScript.ROOTS);
            if (roots != 1) {
                DUE.same("after seal() of " + roots, Due.view(x), before);
            }
        }
        PolicyScript y = new PolicyScript(8, 1, 1, 1);
        for (int i = 0; i < 8; i++) {
            y.lock(PolicyScript.KEY, 0);
        }
        for (int roots = 7; roots >= 2; roots--) {
            y.join(1, 2);
            DUE.is("seal() of " + roots + " joined roots", y.seal(), PolicyScript.ROOTS);
        }
        y.join(1, 2);
        DUE.is("seal() of the last root", y.seal(), PolicyScript.SIGNED);
    }

    private static void draftCanBeFedFurther() {
        for (State state : new State[] {State.START, State.EMPTY_DRAFT, State.TWO_ROOTS,
            State.FULL_DRAFT, State.REOPENED}) {
            PolicyScript x = state.make();
            DUE.is("seal() in " + state, x.seal(), PolicyScript.ROOTS);
            DUE.still(state, "seal()", x);
        }
        PolicyScript y = new PolicyScript(8, 1, 1, 1);
        y.seal();
        DUE.is("lock after a refused seal()", y.lock(PolicyScript.KEY, 0), 0);
        DUE.is("the next lock", y.lock(PolicyScript.KEY, 1), 1);
        y.seal();
        DUE.is("join after a refused seal()", y.join(2, 2), 1);
        DUE.is("seal() at last", y.seal(), PolicyScript.SIGNED);
    }

    private static void becomesSealed() {
        for (State state : new State[] {State.ONE_ROOT, State.JOINED_DRAFT}) {
            PolicyScript x = state.make();
            DUE.is("seal() in " + state, x.seal(), PolicyScript.SIGNED);
            DUE.is("status()", x.status(), 1024 + 64 + 21);
            DUE.is("lock", x.lock(PolicyScript.KEY, 0), PolicyScript.SEALED);
            DUE.is("join", x.join(1, 2), PolicyScript.SEALED);
            DUE.is("spend()", x.spend(), PolicyScript.SHORT);
        }
    }

    /** The slots of an earlier policy were full; those of the next one are not. */
    private static void slotsAreEmpty() {
        for (int before = 1; before <= 8; before++) {
            PolicyScript x = new PolicyScript(8, 1, 1, 1);
            feedTimes(x, before);
            x.satisfy();
            x.reopen();
            feedTimes(x, 8);
            DUE.same("slots after a policy of " + before, Due.slots(x), "0 0 0 0 0 0 0 0");
            DUE.is("spend() after a policy of " + before, x.spend(), PolicyScript.SHORT);
        }
    }

    private static void feedTimes(PolicyScript x, int locks) {
        for (int i = 0; i < locks; i++) {
            x.lock(PolicyScript.AFTER, 0);
        }
        x.join(locks, locks);
        x.seal();
    }

    /** Each join of each mixture of kinds: enough locks that are no keys, or not. */
    private static void signedOrNot() {
        for (int n = 2; n <= 8; n++) {
            for (int k = 1; k <= n; k++) {
                for (int keys = 0; keys < 1 << n; keys++) {
                    PolicyScript x = new PolicyScript(8, 1, 1, 1);
                    for (int i = 0; i < n; i++) {
                        x.lock((keys >> i & 1) == 1 ? 1 : 2 + i % 2, 5);
                    }
                    x.join(k, n);
                    boolean keyless = n - Integer.bitCount(keys) >= k;
                    int due = keyless ? PolicyScript.UNSIGNED : PolicyScript.SIGNED;
                    DUE.is(k + " of " + n + ", keys " + keys, x.seal(), due);
                }
            }
        }
    }

    private static void heldAndClockHaveNoSay() {
        int[] due = {PolicyScript.SIGNED, PolicyScript.UNSIGNED, PolicyScript.UNSIGNED};
        for (int clock = 0; clock <= 63; clock += 63) {
            for (int held = 0; held < 2; held++) {
                for (int kind = 1; kind <= 3; kind++) {
                    PolicyScript x = new PolicyScript(8, 1, 1, 1);
                    x.setTime(clock);
                    if (held == 1) {
                        Due.holdAll(x);
                    }
                    x.lock(kind, kind == 3 ? 63 : 7);
                    DUE.is("seal() of kind " + kind + " at " + clock, x.seal(), due[kind - 1]);
                }
            }
        }
    }

    private static void singleLock() {
        for (int kind = 1; kind <= 3; kind++) {
            for (int number = 0; number <= (kind == 3 ? 63 : 7); number++) {
                PolicyScript x = new PolicyScript(2, 1, 1, 1);
                x.lock(kind, number);
                DUE.is("seal()", x.seal(), kind == 1 ? PolicyScript.SIGNED : PolicyScript.UNSIGNED);
                Due.holdAll(x);
                x.setTime(63);
                DUE.is("satisfy()", x.satisfy(), 1);
                DUE.is("spend()", x.spend(), PolicyScript.ACCEPTED);
            }
        }
    }

    private static void allElseStays() {
        for (State state : new State[] {State.ONE_ROOT, State.JOINED_DRAFT}) {
            PolicyScript x = state.make();
            String before = Due.view(x);
            int status = x.status();
            x.seal();
            String due = before.replace("status " + status, "status " + (status + 1024));
            DUE.same("after seal() in " + state, Due.view(x), due);
            int locks = state == State.ONE_ROOT ? 1 : 4;
            DUE.is("place in the last lock", x.place(locks - 1, 0, 0), 0);
            DUE.is("place past the last lock", x.place(locks, 0, 0), PolicyScript.BAD);
        }
    }
}
