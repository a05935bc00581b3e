/** Promise 15: reading a slot. */
public final class Promise15Test {
    private static final Due DUE = new Due();

    public static void main(String[] args) {
        DUE.sentence("slot(lock) answers the content of the slot of that lock;", Promise15Test::content);
        DUE.sentence("0 if the slot is empty,", Promise15Test::empty);
        DUE.sentence("if there is no such lock (lock negative, or not less than the number of locks fed),",
            Promise15Test::noSuchLock);
        DUE.sentence("or if the policy is not sealed.", Promise15Test::notSealed);
        DUE.sentence("Nothing changes.", Promise15Test::nothingChanges);
        DUE.end();
    }

    private static void content() {
        PolicyScript x = Due.hashes(8, 8);
        Due.holdAll(x);
        for (int lock = 0; lock < 8; lock++) {
            for (int code = 64; code < 256; code++) {
                if (x.place(lock, code / 64, code % 64) >= 0) {
                    DUE.is("slot(" + lock + ")", x.slot(lock), code);
                }
            }
        }
        x.satisfy();
        DUE.same("slots by satisfy()", Due.slots(x), "128 129 130 131 132 133 134 135");
        PolicyScript y = Due.hashes(3, 8);
        y.malleate();
        DUE.same("slots by malleate()", Due.slots(y), "128 129 130 0 0 0 0 0");
        DUE.same("slots by hand", Due.slots(State.FULL_SLOTS.make()), "64 255 130 212 0 0 0 0");
    }

    private static void empty() {
        PolicyScript x = Due.hashes(8, 8);
        Due.holdAll(x);
        for (int lock = 0; lock < 8; lock++) {
            DUE.is("slot(" + lock + ") just sealed", x.slot(lock), 0);
        }
        for (int lock = 0; lock < 8; lock++) {
            x.satisfy();
            x.place(lock, 0, 0);
            DUE.is("slot(" + lock + ") emptied", x.slot(lock), 0);
        }
        DUE.same("slots of a witness", Due.slots(State.WITNESS.make()), "64 0 0 212 0 0 0 0");
    }

    /** A policy of eight was there before, so there is something to be seen by mistake. */
    private static void noSuchLock() {
        for (int n = 2; n <= 8; n++) {
            PolicyScript x = Due.hashes(8, 8);
            x.malleate();
            x.reopen();
            for (int i = 0; i < n; i++) {
                x.lock(PolicyScript.HASH, i);
            }
            x.join(n, n);
            x.seal();
            x.malleate();
            for (int lock : Due.intsOutside(0, n - 1)) {
                DUE.is("slot(" + lock + ") of " + n, x.slot(lock), 0);
            }
            DUE.is("slot(" + (n - 1) + ") of " + n, x.slot(n - 1), 127 + n);
        }
    }

    private static void notSealed() {
        for (State state : State.drafts()) {
            PolicyScript x = state.make();
            for (int lock : Due.ints()) {
                DUE.is("slot(" + lock + ") in " + state, x.slot(lock), 0);
            }
        }
        PolicyScript y = State.FULL_SLOTS.make();
        y.reopen();
        for (int i = 0; i < 4; i++) {
            y.lock(PolicyScript.KEY, 0);
            DUE.same("slots in the next draft", Due.slots(y), "0 0 0 0 0 0 0 0");
        }
        y.join(1, 4);
        DUE.same("slots in the next draft", Due.slots(y), "0 0 0 0 0 0 0 0");
    }

    private static void nothingChanges() {
        for (State state : State.values()) {
            PolicyScript x = state.make();
            for (int lock : Due.ints()) {
                int first = x.slot(lock);
                DUE.is("slot(" + lock + ") again in " + state, x.slot(lock), first);
            }
            DUE.still(state, "slot", x);
        }
    }
}
