/** Promise 5: reopening. */
public final class Promise05Test {
    private static final Due DUE = new Due();

    public static void main(String[] args) {
        DUE.sentence("reopen() works in any state, draft or sealed.", Promise05Test::anyState);
        DUE.sentence("The tokens, locks, roots and slots are all discarded, and there is an empty draft;",
            Promise05Test::allIsDiscarded);
        DUE.sentence("lock numbers begin again from 0.", Promise05Test::numbersBeginAgain);
        DUE.sentence("What is held and the clock stay as they are,", Promise05Test::heldAndClockStay);
        DUE.sentence("as do the greatest number of locks and the weights.",
            Promise05Test::limitAndWeightsStay);
        DUE.end();
    }

    /** But for what is held and the clock, the object is as it was when it was made. */
    private static void anyState() {
        for (State state : State.values()) {
            PolicyScript x = state.make();
            PolicyScript due = new PolicyScript(4, 70, 30, 5);
            for (int kind = 1; kind <= 2; kind++) {
                for (int number = 0; number < 8; number++) {
                    due.hold(kind, number, x.holds(kind, number) == 1);
                }
            }
            due.setTime(x.status() % 64);
            x.reopen();
            DUE.same("after reopen() in " + state, Due.view(x), Due.view(due));
            x.reopen();
            DUE.same("later, reopen() in " + state, State.future(x), State.future(due));
        }
    }

    private static void allIsDiscarded() {
        for (State state : State.values()) {
            PolicyScript x = state.make();
            x.reopen();
            DUE.is("roots after " + state, x.status() / 64, 0);
            for (int i = 0; i < 16; i++) {
                DUE.is("token(" + i + ") after " + state, x.token(i), 0);
            }
            DUE.same("slots after " + state, Due.slots(x), "0 0 0 0 0 0 0 0");
            DUE.is("seal() after " + state, x.seal(), PolicyScript.ROOTS);
            DUE.is("join(1, 2) after " + state, x.join(1, 2), PolicyScript.ROOTS);
            DUE.is("spend() after " + state, x.spend(), PolicyScript.DRAFT);
            DUE.is("place(0, 0, 0) after " + state, x.place(0, 0, 0), PolicyScript.DRAFT);
            x.lock(PolicyScript.KEY, 0);
            x.lock(PolicyScript.KEY, 0);
            x.join(1, 2);
            x.seal();
            DUE.same("slots of the next policy", Due.slots(x), "0 0 0 0 0 0 0 0");
            DUE.is("variants() of the next policy", x.variants(), 0);
            DUE.is("place past its locks", x.place(2, 0, 0), PolicyScript.BAD);
        }
    }

    /** The longest policy, often enough for anything that is left behind to pile up. */
    private static void numbersBeginAgain() {
        PolicyScript longest = new PolicyScript(8, 1, 1, 1);
        for (int round = 0; round < 1000; round++) {
            for (int i = 0; i < 8; i++) {
                DUE.is("lock " + i + " in round " + round, longest.lock(PolicyScript.AFTER, 0), i);
            }
            for (int roots = 7; roots >= 1; roots--) {
                DUE.is("join in round " + round, longest.join(2, 2), roots);
            }
            longest.seal();
            DUE.is("satisfy() in round " + round, longest.satisfy(), 8);
            longest.reopen();
        }
        for (State state : State.values()) {
            PolicyScript x = state.make();
            for (int round = 0; round < 3; round++) {
                x.reopen();
                for (int i = 0; i < 4; i++) {
                    DUE.is("lock after reopen() in " + state, x.lock(PolicyScript.AFTER, i), i);
                }
            }
        }
    }

    private static void heldAndClockStay() {
        for (State state : State.values()) {
            PolicyScript x = state.make();
            x.hold(PolicyScript.HASH, 7, true);
            x.hold(PolicyScript.KEY, 0, true);
            for (int clock = 0; clock <= 63; clock += 63) {
                x.setTime(clock);
                String held = Due.held(x);
                x.reopen();
                DUE.same("held after " + state, Due.held(x), held);
                DUE.is("status() after " + state, x.status(), clock);
            }
        }
    }

    private static void limitAndWeightsStay() {
        for (int limit = 2; limit <= 8; limit++) {
            PolicyScript x = new PolicyScript(limit, 11, 12, 99);
            Due.holdAll(x);
            for (int round = 0; round < 4; round++) {
                for (int i = 0; i < limit; i++) {
                    x.lock(1 + (i + round) % 3, 0);
                }
                DUE.is("lock past " + limit, x.lock(1, 0), PolicyScript.FULL);
                x.reopen();
                int kind = 1 + round % 3;
                x.lock(kind, 0);
                x.seal();
                DUE.is("weight of kind " + kind, x.satisfy(), kind == 3 ? 99 : 10 + kind);
                x.reopen();
            }
        }
    }
}
