/** Promise 7: asking for a secret. */
public final class Promise07Test {
    private static final Due DUE = new Due();

    public static void main(String[] args) {
        DUE.sentence("holds(kind, number) works in any state", Promise07Test::anyState);
        DUE.sentence("1. kind is neither KEY nor HASH,", Promise07Test::badKind);
        DUE.sentence("or number is not in 0..7: BAD.", Promise07Test::badNumber);
        DUE.sentence("2. Otherwise 1 if that secret is held, else 0.", Promise07Test::heldOrNot);
        DUE.sentence("Nothing changes.", Promise07Test::nothingChanges);
        DUE.end();
    }

    private static void anyState() {
        for (State state : State.values()) {
            PolicyScript x = state.make();
            boolean some = state != State.START;
            boolean keys = some && state != State.NO_SIGNATURE;
            DUE.is("holds(1, 0) in " + state, x.holds(PolicyScript.KEY, 0), keys ? 1 : 0);
            DUE.is("holds(1, 5) in " + state, x.holds(PolicyScript.KEY, 5), some ? 1 : 0);
            DUE.is("holds(2, 2) in " + state, x.holds(PolicyScript.HASH, 2), some ? 1 : 0);
            DUE.is("holds(1, 1) in " + state, x.holds(PolicyScript.KEY, 1), 0);
            DUE.is("holds(2, 0) in " + state, x.holds(PolicyScript.HASH, 0), 0);
        }
    }

    private static void badKind() {
        for (int held = 0; held < 2; held++) {
            PolicyScript x = new PolicyScript(8, 1, 1, 1);
            if (held == 1) {
                Due.holdAll(x);
            }
            for (int kind : Due.intsOutside(1, 2)) {
                for (int number : new int[] {Integer.MIN_VALUE, -1, 0, 3, 7, 8, Integer.MAX_VALUE}) {
                    String call = "holds(" + kind + ", " + number + ")";
                    DUE.is(call, x.holds(kind, number), PolicyScript.BAD);
                }
            }
        }
    }

    private static void badNumber() {
        for (int held = 0; held < 2; held++) {
            PolicyScript x = new PolicyScript(8, 1, 1, 1);
            if (held == 1) {
                Due.holdAll(x);
            }
            for (int number : Due.intsOutside(0, 7)) {
                DUE.is("holds(1, " + number + ")", x.holds(PolicyScript.KEY, number), PolicyScript.BAD);
                DUE.is("holds(2, " + number + ")", x.holds(PolicyScript.HASH, number), PolicyScript.BAD);
            }
        }
    }

    private static void heldOrNot() {
        for (int secret = 0; secret < 16; secret++) {
            PolicyScript x = new PolicyScript(8, 1, 1, 1);
            x.hold(1 + secret / 8, secret % 8, true);
            for (int other = 0; other < 16; other++) {
                int due = other == secret ? 1 : 0;
                DUE.is("holds", x.holds(1 + other / 8, other % 8), due);
            }
            x.hold(1 + secret / 8, secret % 8, false);
            DUE.is("holds", x.holds(1 + secret / 8, secret % 8), 0);
        }
    }

    private static void nothingChanges() {
        for (State state : State.values()) {
            PolicyScript x = state.make();
            for (int kind = 0; kind <= 4; kind++) {
                for (int number = -1; number <= 8; number++) {
                    int first = x.holds(kind, number);
                    DUE.is("holds again in " + state, x.holds(kind, number), first);
                }
            }
            DUE.still(state, "holds", x);
        }
    }
}
