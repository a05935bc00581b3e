/** Promise 17: status. */
public final class Promise17Test {
    private static final Due DUE = new Due();

    public static void main(String[] args) {
        DUE.sentence("status() answers, in any state,", Promise17Test::anyState);
        DUE.sentence("the clock,", Promise17Test::clock);
        DUE.sentence("plus 64 times the number of roots,", Promise17Test::roots);
        DUE.sentence("plus 1024 if the policy is sealed.", Promise17Test::sealed);
        DUE.sentence("A sealed policy has exactly one root.", Promise17Test::oneRoot);
        DUE.sentence("Nothing changes.", Promise17Test::nothingChanges);
        DUE.end();
    }

    private static void anyState() {
        int[] roots = {0, 0, 1, 2, 4, 1, 0, 1, 1, 1, 1, 1, 1, 1};
        for (State state : State.values()) {
            int clock = state == State.START ? 0 : state == State.CLOCK_BACK ? 19 : 21;
            int due = clock + 64 * roots[state.ordinal()] + (state.isSealed() ? 1024 : 0);
            DUE.is("status() in " + state, state.make().status(), due);
        }
    }

    private static void clock() {
        for (State state : State.values()) {
            PolicyScript x = state.make();
            int others = x.status() / 64 * 64;
            for (int time = 0; time <= 63; time++) {
                x.setTime(time);
                DUE.is("status() at " + time + " in " + state, x.status(), others + time);
            }
        }
    }

    private static void roots() {
        for (int clock = 0; clock <= 63; clock += 63) {
            PolicyScript x = new PolicyScript(8, 1, 1, 1);
            x.setTime(clock);
            DUE.is("status() of no roots", x.status(), clock);
            for (int roots = 1; roots <= 8; roots++) {
                x.lock(PolicyScript.KEY, 0);
                DUE.is("status() of " + roots + " roots", x.status(), clock + 64 * roots);
            }
            x.lock(PolicyScript.KEY, 0);
            DUE.is("status() after FULL", x.status(), clock + 64 * 8);
            for (int roots = 7; roots >= 1; roots--) {
                x.join(1, 2);
                DUE.is("status() of " + roots + " roots", x.status(), clock + 64 * roots);
            }
            x.join(1, 2);
            DUE.is("status() after ROOTS", x.status(), clock + 64);
        }
    }

    private static void sealed() {
        for (int clock = 0; clock <= 63; clock += 63) {
            PolicyScript x = new PolicyScript(8, 1, 1, 1);
            x.setTime(clock);
            x.lock(PolicyScript.KEY, 0);
            x.lock(PolicyScript.KEY, 0);
            x.seal();
            DUE.is("status() after a refused seal()", x.status(), clock + 128);
            x.join(1, 2);
            DUE.is("status() before seal()", x.status(), clock + 64);
            x.seal();
            DUE.is("status() after seal()", x.status(), clock + 64 + 1024);
            x.reopen();
            DUE.is("status() after reopen()", x.status(), clock);
        }
    }

    private static void oneRoot() {
        for (int n = 2; n <= 8; n++) {
            DUE.is("status() of " + n + " locks", Due.hashes(1, n).status(), 1024 + 64);
        }
        for (int kind = 1; kind <= 3; kind++) {
            DUE.is("status() of one lock", Due.single(kind, 0).status(), 1024 + 64);
        }
        for (State state : State.sealedOnes()) {
            PolicyScript x = state.make();
            x.lock(PolicyScript.KEY, 0);
            x.join(1, 2);
            DUE.is("roots in " + state, x.status() / 64 % 16, 1);
        }
    }

    private static void nothingChanges() {
        for (State state : State.values()) {
            PolicyScript x = state.make();
            int first = x.status();
            DUE.is("status() again in " + state, x.status(), first);
            DUE.still(state, "status()", x);
        }
    }
}
