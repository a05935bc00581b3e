/** Promise 16: reading a token. */
public final class Promise16Test {
    private static final Due DUE = new Due();

    public static void main(String[] args) {
        DUE.sentence("token(index) answers the code of the token at that place (from 0) in the order fed,"
            + " locks and joins counted together,", Promise16Test::inTheOrderFed);
        DUE.sentence("in draft or sealed.", Promise16Test::draftOrSealed);
        DUE.sentence("A lock token answers kind * 64 + number;", Promise16Test::lockCodes);
        DUE.sentence("a join token answers 256 + (k - 1) * 8 + (n - 1).", Promise16Test::joinCodes);
        DUE.sentence("If there is no such token (index negative, or not less than the number of tokens),"
            + " the answer is 0.", Promise16Test::noSuchToken);
        DUE.sentence("Calls to lock and join that were refused leave no token.", Promise16Test::refused);
        DUE.sentence("Nothing changes.", Promise16Test::nothingChanges);
        DUE.end();
    }

    private static void tokens(PolicyScript x, int... due) {
        for (int index : Due.ints()) {
            int code = index >= 0 && index < due.length ? due[index] : 0;
            DUE.is("token(" + index + ")", x.token(index), code);
        }
    }

    private static void inTheOrderFed() {
        PolicyScript x = new PolicyScript(8, 1, 1, 1);
        x.lock(1, 0);
        for (int i = 1; i < 8; i++) {
            x.lock(1, i);
            x.join(1 + i % 2, 2);
        }
        tokens(x, 64, 65, 265, 66, 257, 67, 265, 68, 257, 69, 265, 70, 257, 71, 265);
        PolicyScript y = new PolicyScript(8, 1, 1, 1);
        for (int i = 0; i < 8; i++) {
            y.lock(3, 63 - i);
        }
        for (int i = 0; i < 7; i++) {
            y.join(2, 2);
        }
        tokens(y, 255, 254, 253, 252, 251, 250, 249, 248, 265, 265, 265, 265, 265, 265, 265);
    }

    private static void draftOrSealed() {
        PolicyScript x = State.JOINED_DRAFT.make();
        tokens(x, 64, 65, 130, 212, 258, 265);
        x.seal();
        tokens(x, 64, 65, 130, 212, 258, 265);
        for (State state : State.sealedOnes()) {
            tokens(state.make(), 64, 65, 130, 212, 258, 265);
        }
        tokens(State.ONE_ROOT.make(), 64);
        tokens(State.TWO_ROOTS.make(), 64, 65);
        tokens(State.FULL_DRAFT.make(), 64, 65, 130, 212);
        tokens(State.REOPENED.make());
    }

    private static void lockCodes() {
        for (int kind = 1; kind <= 3; kind++) {
            for (int number = 0; number <= (kind == 3 ? 63 : 7); number++) {
                PolicyScript x = new PolicyScript(2, 1, 1, 1);
                x.lock(kind, number);
                DUE.is("token(0)", x.token(0), kind * 64 + number);
            }
        }
    }

    private static void joinCodes() {
        for (int n = 2; n <= 8; n++) {
            for (int k = 1; k <= n; k++) {
                DUE.is("token(" + n + ")", Due.hashes(k, n).token(n), 256 + (k - 1) * 8 + (n - 1));
            }
        }
    }

    /** A longer policy was there before, so there is something to be seen by mistake. */
    private static void noSuchToken() {
        tokens(State.START.make());
        tokens(State.EMPTY_DRAFT.make());
        PolicyScript x = Due.hashes(8, 8);
        x.reopen();
        tokens(x);
        x.lock(3, 0);
        tokens(x, 192);
        x.lock(3, 1);
        tokens(x, 192, 193);
        x.join(1, 2);
        tokens(x, 192, 193, 257);
        x.seal();
        tokens(x, 192, 193, 257);
    }

    private static void refused() {
        PolicyScript x = new PolicyScript(2, 1, 1, 1);
        x.lock(0, 0);
        x.join(1, 2);
        tokens(x);
        x.lock(1, 7);
        x.lock(1, 8);
        x.join(1, 2);
        x.join(3, 2);
        tokens(x, 71);
        x.lock(2, 0);
        x.lock(2, 1);
        x.join(1, 3);
        tokens(x, 71, 128);
        x.join(2, 2);
        x.join(2, 2);
        x.lock(2, 1);
        tokens(x, 71, 128, 265);
        x.seal();
        x.lock(1, 1);
        x.join(1, 2);
        tokens(x, 71, 128, 265);
    }

    private static void nothingChanges() {
        for (State state : State.values()) {
            PolicyScript x = state.make();
            for (int index : Due.ints()) {
                int first = x.token(index);
                DUE.is("token(" + index + ") again in " + state, x.token(index), first);
            }
            DUE.still(state, "token", x);
        }
    }
}
