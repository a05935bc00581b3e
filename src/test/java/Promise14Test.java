/** Promise 14: the earliest time. */
public final class Promise14Test {
    private static final Due DUE = new Due();

    public static void main(String[] args) {
        DUE.sentence("1. The policy is not sealed: DRAFT.", Promise14Test::draft);
        DUE.sentence("2. Otherwise the least time t in 0..63 such that this set is TRUE",
            Promise14Test::leastTime);
        DUE.sentence("the KEY and HASH locks whose secret is held,", Promise14Test::heldSecrets);
        DUE.sentence("together with the AFTER locks whose number is <= t.", Promise14Test::everyNumber);
        DUE.sentence("3. There is no such t: NONE.", Promise14Test::none);
        DUE.sentence("The clock and the slots do not matter.", Promise14Test::clockAndSlots);
        DUE.sentence("Nothing changes.", Promise14Test::nothingChanges);
        DUE.end();
    }

    private static void draft() {
        for (State state : State.drafts()) {
            PolicyScript x = state.make();
            DUE.is("earliest() in " + state, x.earliest(), PolicyScript.DRAFT);
            DUE.still(state, "earliest()", x);
        }
    }

    /** The k-th of eight numbers that are not fed in their order. */
    private static void leastTime() {
        int[] numbers = {40, 0, 63, 7, 62, 1, 40, 20};
        int[] sorted = {0, 1, 7, 20, 40, 40, 62, 63};
        for (int k = 1; k <= 8; k++) {
            PolicyScript x = new PolicyScript(8, 1, 1, 1);
            for (int number : numbers) {
                x.lock(PolicyScript.AFTER, number);
            }
            x.join(k, 8);
            x.seal();
            DUE.is("earliest() of " + k + " of 8", x.earliest(), sorted[k - 1]);
        }
        PolicyScript y = Due.draft(new int[] {1, 1, 1}, 64, 255);
        y.join(2, 2);
        y.seal();
        y.hold(PolicyScript.KEY, 0, true);
        DUE.is("earliest() of key 0 and after 63", y.earliest(), 63);
    }

    private static void heldSecrets() {
        for (int lock = 0; lock < 16; lock++) {
            PolicyScript x = Due.single(1 + lock / 8, lock % 8);
            for (int secret = 0; secret < 16; secret++) {
                x.hold(1 + secret / 8, secret % 8, true);
                int due = secret == lock ? 0 : PolicyScript.NONE;
                DUE.is("earliest() of " + lock + " with " + secret, x.earliest(), due);
                x.hold(1 + secret / 8, secret % 8, false);
            }
        }
        PolicyScript y = Due.keyAndOneOfThree();
        y.hold(PolicyScript.KEY, 0, true);
        DUE.is("earliest() with key 0", y.earliest(), 20);
        y.hold(PolicyScript.HASH, 2, true);
        DUE.is("earliest() with key 0 and hash 2", y.earliest(), 0);
    }

    private static void everyNumber() {
        for (int number = 0; number <= 63; number++) {
            DUE.is("earliest() of " + number, Due.single(PolicyScript.AFTER, number).earliest(), number);
        }
    }

    private static void none() {
        PolicyScript x = Due.keyAndOneOfThree();
        DUE.is("earliest() with nothing", x.earliest(), PolicyScript.NONE);
        Due.holdAll(x);
        x.hold(PolicyScript.KEY, 0, false);
        DUE.is("earliest() without key 0", x.earliest(), PolicyScript.NONE);
        PolicyScript y = State.NO_SIGNATURE.make();
        DUE.is("earliest() in NO_SIGNATURE", y.earliest(), PolicyScript.NONE);
        DUE.still(State.NO_SIGNATURE, "earliest()", y);
        PolicyScript z = Due.draft(new int[] {1, 1, 1}, 255, 192, 128);
        z.join(3, 3);
        z.seal();
        DUE.is("earliest() of both times and a hash", z.earliest(), PolicyScript.NONE);
    }

    private static void clockAndSlots() {
        for (int content = 0; content < 256; content++) {
            PolicyScript x = Due.keyAndOneOfThree();
            Due.holdAll(x);
            x.place(content % 4, content / 64, content % 64);
            x.hold(PolicyScript.HASH, 2, false);
            x.hold(PolicyScript.KEY, 1, false);
            for (int clock : new int[] {0, 19, 20, 21, 63}) {
                x.setTime(clock);
                DUE.is("earliest() at " + clock, x.earliest(), 20);
            }
            x.hold(PolicyScript.KEY, 0, false);
            DUE.is("earliest() with slots alone", x.earliest(), PolicyScript.NONE);
        }
    }

    private static void nothingChanges() {
        for (State state : State.values()) {
            PolicyScript x = state.make();
            int first = x.earliest();
            DUE.is("earliest() again in " + state, x.earliest(), first);
            DUE.still(state, "earliest()", x);
        }
    }
}
