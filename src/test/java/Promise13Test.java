/** Promise 13: judging the witness. */
public final class Promise13Test {
    private static final Due DUE = new Due();

    public static void main(String[] args) {
        DUE.sentence("1. The policy is not sealed: DRAFT.", Promise13Test::draft);
        DUE.sentence("2. Let F be the set of locks whose slot is not empty. Some lock in F does not FIT:"
            + " WRONG.", Promise13Test::wrong);
        DUE.sentence("3. F is not TRUE: SHORT.", Promise13Test::tooShort);
        DUE.sentence("This is the answer when all slots are empty.", Promise13Test::allEmpty);
        DUE.sentence("4. F is not MINIMAL: LOOSE.", Promise13Test::loose);
        DUE.sentence("5. Otherwise ACCEPTED.", Promise13Test::accepted);
        DUE.sentence("What is held does not matter;", Promise13Test::heldDoesNotMatter);
        DUE.sentence("the present clock does, through FITS.", Promise13Test::presentClock);
        DUE.sentence("Nothing changes; in particular the witness stays and can be judged again.",
            Promise13Test::nothingChanges);
        DUE.end();
    }

    private static void draft() {
        for (State state : State.drafts()) {
            PolicyScript x = state.make();
            DUE.is("spend() in " + state, x.spend(), PolicyScript.DRAFT);
            DUE.still(state, "spend()", x);
        }
    }

    /** k of n hashes with the slots of a set filled. */
    private static PolicyScript filled(int k, int n, int mask) {
        PolicyScript x = Due.hashes(k, n);
        Due.holdAll(x);
        for (int i = 0; i < n; i++) {
            if ((mask >> i & 1) == 1) {
                x.place(i, PolicyScript.HASH, i);
            }
        }
        return x;
    }

    /** One slot with a wrong content, be the others too few, just enough or too many. */
    private static void wrong() {
        for (int mask = 0; mask < 16; mask++) {
            for (int lock = 0; lock < 4; lock++) {
                for (int content : new int[] {64, 128 + (lock + 1) % 4, 192 + lock}) {
                    PolicyScript x = filled(2, 4, mask);
                    x.place(lock, content / 64, content % 64);
                    DUE.is("spend() with " + content + " in " + lock, x.spend(), PolicyScript.WRONG);
                }
            }
        }
        for (int lock = 0; lock < 8; lock++) {
            PolicyScript x = filled(8, 8, 255);
            x.place(lock, PolicyScript.KEY, lock);
            DUE.is("spend() with slot " + lock + " of 8 wrong", x.spend(), PolicyScript.WRONG);
        }
    }

    private static void tooShort() {
        for (int n = 2; n <= 8; n++) {
            for (int k = 1; k <= n; k++) {
                for (int mask = 0; mask < 1 << n; mask++) {
                    if (Integer.bitCount(mask) < k) {
                        DUE.is("spend() of " + mask, filled(k, n, mask).spend(), PolicyScript.SHORT);
                    }
                }
            }
        }
    }

    private static void allEmpty() {
        for (int n = 2; n <= 8; n++) {
            for (int k = 1; k <= n; k++) {
                DUE.is("spend() just sealed", Due.hashes(k, n).spend(), PolicyScript.SHORT);
                PolicyScript x = filled(k, n, (1 << n) - 1);
                for (int i = 0; i < n; i++) {
                    x.place(i, 0, 0);
                }
                DUE.is("spend() emptied", x.spend(), PolicyScript.SHORT);
            }
        }
        for (int kind = 1; kind <= 3; kind++) {
            PolicyScript x = Due.single(kind, 0);
            Due.holdAll(x);
            DUE.is("spend() of one empty slot", x.spend(), PolicyScript.SHORT);
        }
    }

    private static void loose() {
        for (int n = 2; n <= 8; n++) {
            for (int k = 1; k <= n; k++) {
                for (int mask = 0; mask < 1 << n; mask++) {
                    if (Integer.bitCount(mask) > k) {
                        DUE.is("spend() of " + mask, filled(k, n, mask).spend(), PolicyScript.LOOSE);
                    }
                }
            }
        }
        uselessLock();
    }

    /** Each lock in turn is the only one that can be taken out. */
    private static void uselessLock() {
        for (int pair = 0; pair < 7; pair++) {
            for (int useless = pair; useless <= pair + 1; useless++) {
                for (int needed = 0; needed < 8; needed++) {
                    if (needed == pair || needed == pair + 1) {
                        continue;
                    }
                    PolicyScript x = Due.onePairOfEight(pair);
                    x.place(useless, PolicyScript.HASH, useless);
                    DUE.is("spend() of half a pair", x.spend(), PolicyScript.SHORT);
                    x.place(needed, PolicyScript.HASH, needed);
                    String call = "spend() with " + useless + " of no use beside " + needed;
                    DUE.is(call, x.spend(), PolicyScript.LOOSE);
                }
            }
        }
    }

    private static void accepted() {
        for (int n = 2; n <= 8; n++) {
            for (int k = 1; k <= n; k++) {
                for (int mask = 0; mask < 1 << n; mask++) {
                    if (Integer.bitCount(mask) == k) {
                        DUE.is("spend() of " + mask, filled(k, n, mask).spend(), PolicyScript.ACCEPTED);
                    }
                }
            }
        }
        DUE.is("spend() in WITNESS", State.WITNESS.make().spend(), PolicyScript.ACCEPTED);
    }

    private static void heldDoesNotMatter() {
        for (State state : State.sealedOnes()) {
            PolicyScript x = state.make();
            int due = x.spend();
            Due.holdAll(x);
            DUE.is("spend() with all held, " + state, x.spend(), due);
            for (int number = 0; number < 8; number++) {
                x.hold(PolicyScript.KEY, number, false);
                x.hold(PolicyScript.HASH, number, false);
            }
            DUE.is("spend() with nothing held, " + state, x.spend(), due);
        }
    }

    private static void presentClock() {
        for (int number = 0; number <= 63; number++) {
            PolicyScript x = Due.single(PolicyScript.AFTER, number);
            x.place(0, PolicyScript.AFTER, number);
            for (int clock = 0; clock <= 63; clock++) {
                x.setTime(clock);
                int due = number <= clock ? PolicyScript.ACCEPTED : PolicyScript.WRONG;
                DUE.is("spend() of " + number + " at " + clock, x.spend(), due);
            }
        }
        PolicyScript y = State.CLOCK_BACK.make();
        DUE.is("spend() at 19", y.spend(), PolicyScript.WRONG);
        y.setTime(20);
        DUE.is("spend() at 20", y.spend(), PolicyScript.ACCEPTED);
    }

    private static void nothingChanges() {
        for (State state : State.values()) {
            PolicyScript x = state.make();
            int first = x.spend();
            DUE.is("spend() again in " + state, x.spend(), first);
            DUE.still(state, "spend()", x);
        }
    }
}
