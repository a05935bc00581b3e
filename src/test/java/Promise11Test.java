/** Promise 11: counting the variants. */
public final class Promise11Test {
    private static final Due DUE = new Due();

    public static void main(String[] args) {
        DUE.sentence("1. The policy is not sealed: DRAFT.", Promise11Test::draft);
        DUE.sentence("2. Otherwise the number of MINIMAL subsets of the onlooker's set A as defined in"
            + " Promise 10,", Promise11Test::minimalSubsets);
        DUE.sentence("from the present slots", Promise11Test::presentSlots);
        DUE.sentence("and clock.", Promise11Test::presentClock);
        DUE.sentence("F is not left out here: if F is itself a MINIMAL subset of A, it is counted.",
            Promise11Test::ownSetIsCounted);
        DUE.sentence("If there are none, the answer is 0.", Promise11Test::none);
        DUE.sentence("What is held does not matter.", Promise11Test::heldDoesNotMatter);
        DUE.sentence("Nothing changes.", Promise11Test::nothingChanges);
        DUE.end();
    }

    private static void draft() {
        for (State state : State.drafts()) {
            PolicyScript x = state.make();
            DUE.is("variants() in " + state, x.variants(), PolicyScript.DRAFT);
            DUE.still(state, "variants()", x);
        }
    }

    private static void minimalSubsets() {
        for (int n = 2; n <= 8; n++) {
            int choose = 1;
            for (int k = 1; k <= n; k++) {
                choose = choose * (n - k + 1) / k;
                DUE.is("variants() of " + k + " of " + n, Due.hashes(k, n).variants(), choose);
            }
        }
        PolicyScript x = Due.draft(new int[] {1, 1, 1}, 128, 129, 130);
        x.join(2, 2);
        x.join(1, 2);
        x.seal();
        DUE.is("variants() of hash 0, or hashes 1 and 2", x.variants(), 2);
        DUE.is("variants() of one hash", Due.single(PolicyScript.HASH, 7).variants(), 1);
    }

    private static void presentSlots() {
        PolicyScript x = Due.keyAndOneOfThree();
        Due.holdAll(x);
        DUE.is("variants() with nothing shown", x.variants(), 0);
        x.place(2, PolicyScript.KEY, 0);
        DUE.is("variants() with key 0 in slot 2", x.variants(), 1);
        x.place(3, PolicyScript.KEY, 1);
        DUE.is("variants() with key 1 in slot 3", x.variants(), 2);
        x.place(2, 0, 0);
        DUE.is("variants() with key 1 alone", x.variants(), 0);
        x.place(0, PolicyScript.HASH, 0);
        DUE.is("variants() with hash 0 shown", x.variants(), 0);
        x.place(0, PolicyScript.KEY, 0);
        DUE.is("variants() with both keys", x.variants(), 2);
    }

    private static void presentClock() {
        for (int number = 0; number < 63; number++) {
            PolicyScript x = Due.draft(new int[] {1, 1, 1}, 192 + number, 193 + number);
            x.join(1, 2);
            x.seal();
            for (int clock = 63; clock >= 0; clock--) {
                x.setTime(clock);
                int due = clock < number ? 0 : clock == number ? 1 : 2;
                DUE.is("variants() of " + number + " at " + clock, x.variants(), due);
            }
        }
    }

    private static void ownSetIsCounted() {
        for (int n = 2; n <= 8; n++) {
            PolicyScript x = Due.hashes(n, n);
            x.malleate();
            DUE.is("variants() of the only witness", x.variants(), 1);
            PolicyScript y = Due.hashes(1, n);
            y.malleate();
            DUE.is("variants() with a witness", y.variants(), n);
        }
        PolicyScript z = State.WITNESS.make();
        DUE.is("variants() of {0, 3}", z.variants(), 2);
    }

    private static void none() {
        DUE.is("variants() in NO_SIGNATURE", State.NO_SIGNATURE.make().variants(), 0);
        DUE.is("variants() just sealed", State.JUST_SEALED.make().variants(), 0);
        DUE.is("variants() of a key", Due.single(PolicyScript.KEY, 0).variants(), 0);
        DUE.is("variants() of a time", Due.single(PolicyScript.AFTER, 1).variants(), 0);
    }

    private static void heldDoesNotMatter() {
        for (State state : State.sealedOnes()) {
            PolicyScript x = state.make();
            int due = x.variants();
            Due.holdAll(x);
            DUE.is("variants() with all held, " + state, x.variants(), due);
            for (int number = 0; number < 8; number++) {
                x.hold(PolicyScript.KEY, number, false);
                x.hold(PolicyScript.HASH, number, false);
            }
            DUE.is("variants() with nothing held, " + state, x.variants(), due);
        }
    }

    private static void nothingChanges() {
        for (State state : State.values()) {
            PolicyScript x = state.make();
            int first = x.variants();
            DUE.is("variants() again in " + state, x.variants(), first);
            DUE.still(state, "variants()", x);
        }
    }
}
