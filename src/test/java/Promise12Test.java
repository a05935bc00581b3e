/** Promise 12: setting a slot by hand. */
public final class Promise12Test {
    private static final Due DUE = new Due();

    public static void main(String[] args) {
        DUE.sentence("1. The policy is not sealed: DRAFT.", Promise12Test::draft);
        DUE.sentence("2. lock < 0, or lock is not less than the number of locks fed: BAD.",
            Promise12Test::noSuchLock);
        DUE.sentence("3. kind is 0: the slot becomes empty (if it was not already) and the answer is 0.",
            Promise12Test::emptying);
        DUE.sentence("number is not looked at and can be any int.", Promise12Test::emptyingWithAnyNumber);
        DUE.sentence("4. (kind, number) is not a fit pair: BAD.", Promise12Test::unfitPair);
        DUE.sentence("5. kind is KEY or HASH, and that secret is not held: NONE.",
            Promise12Test::notHeld);
        DUE.sentence("6. Otherwise the content of the slot becomes the code of (kind, number), whatever"
            + " the lock wants and whatever the slot held before.", Promise12Test::content);
        DUE.sentence("The answer is 1 if the lock now FITS, else 0.", Promise12Test::answer);
        DUE.sentence("An AFTER code can be placed whatever the clock; if its number is not open, the lock"
            + " does not FIT and the answer is 0.", Promise12Test::afterAtAnyClock);
        DUE.sentence("The other slots, the policy, what is held and the clock do not change.",
            Promise12Test::allElseStays);
        DUE.end();
    }

    private static void draft() {
        for (State state : State.drafts()) {
            PolicyScript x = state.make();
            for (int lock : new int[] {Integer.MIN_VALUE, -1, 0, 1, 4, 8, Integer.MAX_VALUE}) {
                for (int kind : new int[] {Integer.MIN_VALUE, -1, 0, 1, 2, 3, 4, Integer.MAX_VALUE}) {
                    for (int number : new int[] {Integer.MIN_VALUE, -1, 0, 1, 8, Integer.MAX_VALUE}) {
                        String call = "place(" + lock + ", " + kind + ", " + number + ") in " + state;
                        DUE.is(call, x.place(lock, kind, number), PolicyScript.DRAFT);
                    }
                }
            }
            DUE.still(state, "place in a draft", x);
        }
    }

    private static void noSuchLock() {
        for (State state : State.sealedOnes()) {
            PolicyScript x = state.make();
            for (int lock : Due.intsOutside(0, 3)) {
                String call = "place(" + lock + ", ..) in " + state;
                DUE.is(call, x.place(lock, PolicyScript.KEY, 5), PolicyScript.BAD);
                DUE.is(call, x.place(lock, PolicyScript.AFTER, 0), PolicyScript.BAD);
                DUE.is(call, x.place(lock, 0, 0), PolicyScript.BAD);
                DUE.is(call, x.place(lock, 9, 9), PolicyScript.BAD);
                DUE.is(call, x.place(lock, PolicyScript.KEY, 1), PolicyScript.BAD);
            }
            DUE.still(state, "place in no slot", x);
        }
        for (int n = 2; n <= 8; n++) {
            PolicyScript x = Due.hashes(1, n);
            DUE.is("place in the last of " + n, x.place(n - 1, PolicyScript.AFTER, 0), 0);
            DUE.is("place past the last of " + n, x.place(n, PolicyScript.AFTER, 0), PolicyScript.BAD);
        }
        PolicyScript y = Due.single(PolicyScript.AFTER, 0);
        DUE.is("place in the only slot", y.place(0, PolicyScript.AFTER, 0), 1);
        DUE.is("place past the only slot", y.place(1, PolicyScript.AFTER, 0), PolicyScript.BAD);
    }

    private static void emptying() {
        for (int lock = 0; lock < 4; lock++) {
            PolicyScript x = State.FULL_SLOTS.make();
            String[] due = {"64", "255", "130", "212", "0", "0", "0", "0"};
            due[lock] = "0";
            DUE.is("place(" + lock + ", 0, 0)", x.place(lock, 0, 0), 0);
            DUE.same("slots", Due.slots(x), String.join(" ", due));
            DUE.is("place(" + lock + ", 0, 0) again", x.place(lock, 0, 0), 0);
            DUE.same("slots", Due.slots(x), String.join(" ", due));
        }
        PolicyScript y = State.JUST_SEALED.make();
        DUE.is("place(0, 0, 0) of an empty slot", y.place(0, 0, 0), 0);
        DUE.still(State.JUST_SEALED, "emptying an empty slot", y);
    }

    private static void emptyingWithAnyNumber() {
        PolicyScript x = State.FULL_SLOTS.make();
        for (int number : Due.ints()) {
            x.place(3, PolicyScript.AFTER, 20);
            DUE.is("place(3, 0, " + number + ")", x.place(3, 0, number), 0);
            DUE.is("slot(3)", x.slot(3), 0);
            DUE.is("place(3, 0, " + number + ") again", x.place(3, 0, number), 0);
        }
    }

    private static void unfitPair() {
        for (int held = 0; held < 2; held++) {
            for (State state : State.sealedOnes()) {
                PolicyScript x = state.make();
                PolicyScript due = state.make();
                if (held == 1) {
                    Due.holdAll(x);
                    Due.holdAll(due);
                }
                for (int[] pair : Due.unfitPairs()) {
                    if (pair[0] != 0) {
                        String call = "place(0, " + pair[0] + ", " + pair[1] + ") in " + state;
                        DUE.is(call, x.place(0, pair[0], pair[1]), PolicyScript.BAD);
                    }
                }
                DUE.same("after unfit pairs in " + state, State.future(x), State.future(due));
            }
        }
    }

    private static void notHeld() {
        for (int secret = 0; secret < 16; secret++) {
            PolicyScript x = Due.single(1 + secret / 8, secret % 8);
            Due.holdAll(x);
            x.hold(1 + secret / 8, secret % 8, false);
            DUE.is("place of " + secret, x.place(0, 1 + secret / 8, secret % 8), PolicyScript.NONE);
            DUE.is("slot(0)", x.slot(0), 0);
            x.place(0, PolicyScript.AFTER, 9);
            DUE.is("place of " + secret, x.place(0, 1 + secret / 8, secret % 8), PolicyScript.NONE);
            DUE.is("slot(0)", x.slot(0), 201);
            x.hold(1 + secret / 8, secret % 8, true);
            DUE.is("place when held", x.place(0, 1 + secret / 8, secret % 8), 1);
            x.hold(1 + secret / 8, secret % 8, false);
            DUE.is("place again", x.place(0, 1 + secret / 8, secret % 8), PolicyScript.NONE);
            DUE.is("slot(0)", x.slot(0), 64 * (1 + secret / 8) + secret % 8);
        }
        for (State state : State.sealedOnes()) {
            PolicyScript x = state.make();
            DUE.is("place(2, 1, 1) in " + state, x.place(2, PolicyScript.KEY, 1), PolicyScript.NONE);
            DUE.is("place(0, 2, 0) in " + state, x.place(0, PolicyScript.HASH, 0), PolicyScript.NONE);
            DUE.still(state, "place of secrets not held", x);
        }
    }

    /** Into the slot of a lock of each kind, over each content in turn. */
    private static void content() {
        int[] codes = {64, 71, 128, 135, 192, 255};
        for (int lock = 0; lock < 4; lock++) {
            PolicyScript x = Due.keyAndOneOfThree();
            Due.holdAll(x);
            for (int before : codes) {
                for (int code : codes) {
                    x.place(lock, before / 64, before % 64);
                    x.place(lock, code / 64, code % 64);
                    DUE.is("slot(" + lock + ")", x.slot(lock), code);
                }
            }
        }
    }

    private static void answer() {
        PolicyScript x = Due.draft(new int[] {1, 1, 1}, 64, 71, 128, 135, 192, 255, 64, 192);
        x.join(8, 8);
        x.seal();
        Due.holdAll(x);
        x.setTime(63);
        for (int lock = 0; lock < 8; lock++) {
            for (int code : new int[] {64, 71, 128, 135, 192, 255}) {
                int due = x.token(lock) == code ? 1 : 0;
                DUE.is(code + " in slot " + lock, x.place(lock, code / 64, code % 64), due);
            }
        }
    }

    private static void afterAtAnyClock() {
        PolicyScript x = Due.draft(new int[] {1, 1, 1}, 222, 192, 255, 64);
        x.join(1, 4);
        x.seal();
        for (int clock = 0; clock <= 63; clock++) {
            x.setTime(clock);
            for (int number = 0; number <= 63; number++) {
                String call = "after " + number + " at " + clock;
                int[] wanted = {30, 0, 63, -1};
                for (int lock = 0; lock < 4; lock++) {
                    int due = number == wanted[lock] && number <= clock ? 1 : 0;
                    DUE.is(call, x.place(lock, PolicyScript.AFTER, number), due);
                    DUE.is("slot(" + lock + ")", x.slot(lock), 192 + number);
                }
            }
        }
    }

    private static void allElseStays() {
        for (State state : State.sealedOnes()) {
            for (int lock = 0; lock < 4; lock++) {
                PolicyScript x = state.make();
                String[] slots = Due.slots(x).split(" ");
                String before = Due.viewWithoutSlots(x);
                x.place(lock, PolicyScript.HASH, 2);
                slots[lock] = "130";
                DUE.same("slots in " + state, Due.slots(x), String.join(" ", slots));
                x.place(lock, 0, 7);
                slots[lock] = "0";
                DUE.same("slots in " + state, Due.slots(x), String.join(" ", slots));
                DUE.same("all else in " + state, Due.viewWithoutSlots(x), before);
            }
        }
    }
}
