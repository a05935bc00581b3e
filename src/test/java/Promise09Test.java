/** Promise 9: making a witness. */
public final class Promise09Test {
    private static final Due DUE = new Due();

    public static void main(String[] args) {
        DUE.sentence("1. The policy is not sealed: DRAFT.", Promise09Test::draft);
        DUE.sentence("2. Let A be the set of the KEY and HASH locks whose secret (same kind and number)"
            + " is held,", Promise09Test::heldSecrets);
        DUE.sentence("together with the AFTER locks whose number is open.", Promise09Test::openTimes);
        DUE.sentence("No subset of A is TRUE: NONE, and the slots stay as they were.",
            Promise09Test::none);
        DUE.sentence("3. Otherwise let S be the TRUE subset of A that is BETTER than every other TRUE"
            + " subset of A.", Promise09Test::better);
        DUE.sentence("Each lock in S gets its own code as the content of its slot, all other slots become"
            + " empty,", Promise09Test::slots);
        DUE.sentence("and the answer is the weight of S.", Promise09Test::answer);
        DUE.sentence("The slots' contents before do not matter.", Promise09Test::slotsBefore);
        DUE.sentence("The policy, what is held and the clock do not change.",
            Promise09Test::allElseStays);
        DUE.end();
    }

    private static void draft() {
        for (State state : State.drafts()) {
            PolicyScript x = state.make();
            DUE.is("satisfy() in " + state, x.satisfy(), PolicyScript.DRAFT);
            DUE.still(state, "satisfy()", x);
        }
    }

    /** One lock, and one secret held at a time: of the other kind or number it is of no use. */
    private static void heldSecrets() {
        for (int lock = 0; lock < 16; lock++) {
            PolicyScript x = Due.single(1 + lock / 8, lock % 8);
            x.setTime(63);
            DUE.is("satisfy() with nothing", x.satisfy(), PolicyScript.NONE);
            for (int secret = 0; secret < 16; secret++) {
                x.hold(1 + secret / 8, secret % 8, true);
                int due = secret != lock ? PolicyScript.NONE : lock < 8 ? 3 : 2;
                DUE.is("satisfy() of " + lock + " with " + secret, x.satisfy(), due);
                x.hold(1 + secret / 8, secret % 8, false);
            }
        }
    }

    private static void openTimes() {
        for (int number = 0; number <= 63; number++) {
            PolicyScript x = Due.single(PolicyScript.AFTER, number);
            for (int clock = 63; clock >= 0; clock--) {
                x.setTime(clock);
                int due = number <= clock ? 1 : PolicyScript.NONE;
                DUE.is("satisfy() of " + number + " at " + clock, x.satisfy(), due);
            }
        }
    }

    private static void none() {
        PolicyScript x = State.NO_SIGNATURE.make();
        DUE.is("satisfy() without key 0", x.satisfy(), PolicyScript.NONE);
        DUE.same("slots", Due.slots(x), "0 0 130 212 0 0 0 0");
        DUE.still(State.NO_SIGNATURE, "satisfy()", x);

        PolicyScript y = State.FULL_SLOTS.make();
        y.hold(PolicyScript.HASH, 2, false);
        y.setTime(19);
        DUE.is("satisfy() with key 0 alone", y.satisfy(), PolicyScript.NONE);
        DUE.same("slots", Due.slots(y), "64 255 130 212 0 0 0 0");

        PolicyScript z = Due.hashes(8, 8);
        for (int i = 0; i < 8; i++) {
            DUE.is("satisfy() with " + i + " of 8", z.satisfy(), PolicyScript.NONE);
            z.hold(PolicyScript.HASH, i, true);
        }
        DUE.is("satisfy() with all 8", z.satisfy(), 80);
    }

    /** Key 0, or both hashes: weight decides, and at the same weight the mask, which is 1 and 6. */
    private static void better() {
        for (int hashWeight = 34; hashWeight <= 36; hashWeight++) {
            PolicyScript x = Due.draft(new int[] {70, hashWeight, 5}, 64, 128, 129);
            x.join(2, 2);
            x.join(1, 2);
            x.seal();
            Due.holdAll(x);
            DUE.is("satisfy()", x.satisfy(), hashWeight == 34 ? 68 : 70);
            String due = hashWeight == 34 ? "0 128 129 0 0 0 0 0" : "64 0 0 0 0 0 0 0";
            DUE.same("slots with " + hashWeight, Due.slots(x), due);
        }
        for (int n = 2; n <= 8; n++) {
            PolicyScript x = Due.hashes(n / 2, n);
            Due.holdAll(x);
            x.satisfy();
            for (int i = 0; i < 8; i++) {
                DUE.is("slot(" + i + ") of " + n, x.slot(i), i < n / 2 ? 128 + i : 0);
            }
        }
    }

    private static void slots() {
        PolicyScript x = State.FULL_SLOTS.make();
        x.satisfy();
        DUE.same("slots at 21", Due.slots(x), "64 0 0 212 0 0 0 0");
        x.setTime(19);
        x.satisfy();
        DUE.same("slots at 19", Due.slots(x), "64 0 130 0 0 0 0 0");
        PolicyScript y = Due.hashes(8, 8);
        Due.holdAll(y);
        y.satisfy();
        DUE.same("all eight slots", Due.slots(y), "128 129 130 131 132 133 134 135");
    }

    private static void answer() {
        PolicyScript x = Due.keyAndOneOfThree();
        x.hold(PolicyScript.KEY, 0, true);
        x.hold(PolicyScript.KEY, 1, true);
        DUE.is("satisfy() with two keys", x.satisfy(), 140);
        x.hold(PolicyScript.HASH, 2, true);
        DUE.is("satisfy() with a hash", x.satisfy(), 100);
        x.setTime(20);
        DUE.is("satisfy() at 20", x.satisfy(), 75);
        for (int weight : new int[] {1, 99}) {
            PolicyScript y = Due.draft(new int[] {weight, weight, weight}, 64, 65, 66, 67, 68, 69, 70, 71);
            Due.holdAll(y);
            y.join(8, 8);
            y.seal();
            DUE.is("satisfy() of eight at " + weight, y.satisfy(), 8 * weight);
        }
    }

    private static void slotsBefore() {
        for (State state : new State[] {State.JUST_SEALED, State.WITNESS, State.WRONG_SLOTS,
            State.FULL_SLOTS, State.CLOCK_BACK}) {
            PolicyScript x = state.make();
            x.setTime(21);
            DUE.is("satisfy() in " + state, x.satisfy(), 75);
            DUE.is("satisfy() again in " + state, x.satisfy(), 75);
            DUE.still(State.WITNESS, "satisfy() from " + state, x);
        }
        for (int filled = 0; filled < 16; filled++) {
            for (int content : new int[] {64, 130, 212, 255}) {
                PolicyScript x = State.JUST_SEALED.make();
                for (int i = 0; i < 4; i++) {
                    x.place(i, (filled >> i & 1) * content / 64, content % 64);
                }
                DUE.is("satisfy() with " + content + " in " + filled, x.satisfy(), 75);
            }
        }
    }

    private static void allElseStays() {
        for (State state : State.sealedOnes()) {
            PolicyScript x = state.make();
            String before = Due.viewWithoutSlots(x);
            x.satisfy();
            DUE.same("after satisfy() in " + state, Due.viewWithoutSlots(x), before);
        }
    }
}
