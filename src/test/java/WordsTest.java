/** The words under 'Words used', which bind as the promises do. */
public final class WordsTest {
    private static final Due DUE = new Due();

    public static void main(String[] args) {
        DUE.sentence("A lock has a kind and a number: KEY 0..7, HASH 0..7, AFTER 0..63.",
            WordsTest::everyFitPair);
        DUE.sentence("A fit pair is a kind and a number in these ranges; any other pair of ints is not"
            + " fit.", WordsTest::unfitPairs);
        DUE.sentence("The code of a fit pair is kind * 64 + number.", WordsTest::codes);
        DUE.sentence("A lock token makes a new last root.", WordsTest::lockIsLastRoot);
        DUE.sentence("A join token (k, n) takes away the last n roots and makes one new last root,",
            () -> Joins.lastRoots(DUE));
        DUE.sentence("which is true exactly when at least k of those n are true (k = n is \"and\", k = 1"
            + " is \"or\").", () -> Joins.atLeastK(DUE));
        DUE.sentence("The code of a join token is 256 + (k - 1) * 8 + (n - 1).", WordsTest::joinCodes);
        DUE.sentence("Locks are numbered 0, 1, 2 .. in the order they were fed.",
            WordsTest::lockNumbers);
        DUE.sentence("The same kind and number may be fed several times; these are different locks.",
            WordsTest::sameLockAgain);
        DUE.sentence("The policy is a draft until it is sealed; a sealed policy has exactly one root.",
            WordsTest::draftUntilSealed);
        sets();
        slotsAndRefusals();
        DUE.end();
    }

    private static void sets() {
        DUE.sentence("S is TRUE when the root is true with exactly the locks in S counted as true.",
            WordsTest::trueSets);
        DUE.sentence("The empty set is never TRUE.", WordsTest::emptySet);
        DUE.sentence("S is MINIMAL when it is TRUE, and taking any single lock out of S leaves a set"
            + " that is not TRUE.", WordsTest::minimalSets);
        DUE.sentence("The weight of S is the sum of the weights of its locks, each weight given by the"
            + " lock's kind", WordsTest::weights);
        DUE.sentence("The mask of S is the sum of 2 to the power i over the lock numbers i in S.",
            WordsTest::masks);
        DUE.sentence("One set is BETTER than another if its weight is less,",
            WordsTest::betterByWeight);
        DUE.sentence("or the weights are the same and its mask is less.", WordsTest::betterByMask);
    }

    private static void slotsAndRefusals() {
        DUE.sentence("The witness has one slot for each lock.", WordsTest::oneSlotForEachLock);
        DUE.sentence("A slot is empty (0) or holds the code of a fit pair, called its content.",
            WordsTest::everyContent);
        DUE.sentence("The slots are all empty in a draft and when a policy has just been sealed.",
            WordsTest::emptySlots);
        DUE.sentence("An AFTER number is open when it is <= the clock.", WordsTest::open);
        DUE.sentence("A lock FITS when its slot's content equals the code of the lock,",
            WordsTest::fitsByCode);
        DUE.sentence("and, if the lock is of kind AFTER, its number is open now.",
            WordsTest::fitsByTime);
        DUE.sentence("For each KEY number 0..7 and each HASH number 0..7 there is a secret that is"
            + " either held or not held.", WordsTest::sixteenSecrets);
        DUE.sentence("In every call the conditions are looked at in the order written; the first that"
            + " applies decides the answer.", WordsTest::firstConditionDecides);
        DUE.sentence("A call that answers a negative number changes nothing.",
            WordsTest::refusalsChangeNothing);
    }

    private static void everyFitPair() {
        for (int kind = 1; kind <= 3; kind++) {
            for (int number = 0; number <= (kind == 3 ? 63 : 7); number++) {
                PolicyScript x = new PolicyScript(2, 1, 1, 1);
                Due.holdAll(x);
                x.setTime(63);
                DUE.is("lock(" + kind + ", " + number + ")", x.lock(kind, number), 0);
                x.seal();
                DUE.is("place(0, " + kind + ", " + number + ")", x.place(0, kind, number), 1);
            }
        }
    }

    private static void unfitPairs() {
        PolicyScript draft = new PolicyScript(8, 1, 1, 1);
        PolicyScript sealed = Due.single(PolicyScript.HASH, 2);
        Due.holdAll(draft);
        Due.holdAll(sealed);
        for (int[] pair : Due.unfitPairs()) {
            String ends = pair[0] + ", " + pair[1] + ")";
            DUE.is("lock(" + ends, draft.lock(pair[0], pair[1]), PolicyScript.BAD);
            if (pair[0] != 0) {
                DUE.is("place(0, " + ends, sealed.place(0, pair[0], pair[1]), PolicyScript.BAD);
            }
        }
    }

    private static void codes() {
        for (int kind = 1; kind <= 3; kind++) {
            for (int number = 0; number <= (kind == 3 ? 63 : 7); number++) {
                PolicyScript x = Due.single(kind, number);
                Due.holdAll(x);
                x.place(0, kind, number);
                DUE.is("token(0)", x.token(0), kind * 64 + number);
                DUE.is("slot(0)", x.slot(0), kind * 64 + number);
            }
        }
    }

    /** Three hashes and then (hash 3 and hash 4): only the last two are held, the first is a spare. */
    private static void lockIsLastRoot() {
        PolicyScript x = new PolicyScript(8, 1, 1, 1);
        for (int i = 0; i < 5; i++) {
            x.lock(PolicyScript.HASH, i);
            DUE.is("status() after lock " + i, x.status(), 64 * (i + 1));
        }
        x.join(2, 2);
        x.join(1, 4);
        x.seal();
        x.hold(PolicyScript.HASH, 4, true);
        DUE.is("earliest() with hash 4", x.earliest(), PolicyScript.NONE);
        x.hold(PolicyScript.HASH, 3, true);
        DUE.is("earliest() with hashes 3 and 4", x.earliest(), 0);
        x.hold(PolicyScript.HASH, 3, false);
        x.hold(PolicyScript.HASH, 2, true);
        DUE.is("earliest() with hash 2", x.earliest(), 0);
    }

    private static void joinCodes() {
        for (int n = 2; n <= 8; n++) {
            for (int k = 1; k <= n; k++) {
                int due = 256 + (k - 1) * 8 + (n - 1);
                DUE.is("token of join(" + k + ", " + n + ")", Due.hashes(k, n).token(n), due);
            }
        }
        DUE.is("the least code", Due.hashes(1, 2).token(2), 257);
        DUE.is("the greatest code", Due.hashes(8, 8).token(8), 319);
    }

    private static void lockNumbers() {
        PolicyScript x = new PolicyScript(8, 1, 1, 1);
        int[] codes = {71, 128, 255, 64, 192, 135, 70, 200};
        for (int i = 0; i < 8; i++) {
            DUE.is("number of lock " + i, x.lock(codes[i] / 64, codes[i] % 64), i);
            x.join(2, 2);
        }
        x.seal();
        Due.holdAll(x);
        x.setTime(63);
        x.satisfy();
        DUE.same("slots", Due.slots(x), "71 128 255 64 192 135 70 200");
    }

    private static void sameLockAgain() {
        PolicyScript x = new PolicyScript(8, 3, 2, 1);
        for (int i = 0; i < 8; i++) {
            DUE.is("lock(2, 6) again", x.lock(PolicyScript.HASH, 6), i);
        }
        x.join(3, 8);
        x.seal();
        x.hold(PolicyScript.HASH, 6, true);
        DUE.is("satisfy() with three locks of one hash", x.satisfy(), 6);
        DUE.same("slots", Due.slots(x), "134 134 134 0 0 0 0 0");
        DUE.is("variants()", x.variants(), 56);
    }

    private static void draftUntilSealed() {
        for (State state : State.values()) {
            PolicyScript x = state.make();
            DUE.is("sealed in status() of " + state, x.status() / 1024, state.isSealed() ? 1 : 0);
            if (state.isSealed()) {
                DUE.is("roots in status() of " + state, x.status() / 64 % 16, 1);
            } else {
                DUE.is("spend() in " + state, x.spend(), PolicyScript.DRAFT);
            }
        }
    }

    /** Every set of the locks of "key 0, and one of key 1, hash 2, after 20", by its mask. */
    private static PolicyScript filledBy(int mask) {
        PolicyScript x = Due.keyAndOneOfThree();
        Due.holdAll(x);
        x.setTime(20);
        int[] codes = {64, 65, 130, 212};
        for (int i = 0; i < 4; i++) {
            if ((mask >> i & 1) == 1) {
                x.place(i, codes[i] / 64, codes[i] % 64);
            }
        }
        return x;
    }

    private static void trueSets() {
        for (int mask = 0; mask < 16; mask++) {
            boolean isTrue = mask % 2 == 1 && mask > 1;
            boolean isShort = filledBy(mask).spend() == PolicyScript.SHORT;
            DUE.is("SHORT for mask " + mask, isShort ? 1 : 0, isTrue ? 0 : 1);
        }
    }

    private static void emptySet() {
        for (int kind = 1; kind <= 3; kind++) {
            PolicyScript x = Due.single(kind, 1);
            DUE.is("spend() of no slot", x.spend(), PolicyScript.SHORT);
            x.hold(PolicyScript.KEY, 0, true);
            DUE.is("satisfy() with nothing fitting", x.satisfy(), PolicyScript.NONE);
            DUE.is("earliest()", x.earliest(), kind == 3 ? 1 : PolicyScript.NONE);
            DUE.is("variants()", x.variants(), kind == 2 ? 1 : 0);
        }
        for (int n = 2; n <= 8; n++) {
            for (int k = 1; k <= n; k++) {
                DUE.is("spend() of no slot", Due.hashes(k, n).spend(), PolicyScript.SHORT);
                DUE.is("satisfy() of nothing", Due.hashes(k, n).satisfy(), PolicyScript.NONE);
            }
        }
        DUE.is("seal() of keys alone", Due.draft(new int[] {1, 1, 1}, 64).seal(), PolicyScript.SIGNED);
    }

    private static void minimalSets() {
        for (int mask = 0; mask < 16; mask++) {
            boolean minimal = mask % 2 == 1 && Integer.bitCount(mask) == 2;
            boolean accepted = filledBy(mask).spend() == PolicyScript.ACCEPTED;
            DUE.is("ACCEPTED for mask " + mask, accepted ? 1 : 0, minimal ? 1 : 0);
        }
        for (int lock = 0; lock < 8; lock++) {
            int pair = Math.min(lock, 6);
            int other = (lock + 4) % 8;
            PolicyScript x = Due.onePairOfEight(pair);
            x.place(other, PolicyScript.HASH, other);
            DUE.is("spend() of lock " + other, x.spend(), PolicyScript.ACCEPTED);
            x.place(lock, PolicyScript.HASH, lock);
            DUE.is("spend() with " + lock + " of no use", x.spend(), PolicyScript.LOOSE);
            DUE.is("variants() with the pair " + pair, x.variants(), 7);
        }
    }

    private static void weights() {
        for (int n = 2; n <= 8; n++) {
            for (int weight : new int[] {1, 50, 99}) {
                for (int kind = 1; kind <= 3; kind++) {
                    PolicyScript x = new PolicyScript(8, kind == 1 ? weight : 7, kind == 2 ? weight : 7,
                        kind == 3 ? weight : 7);
                    Due.holdAll(x);
                    for (int i = 0; i < n; i++) {
                        x.lock(kind, 0);
                    }
                    x.join(n, n);
                    x.seal();
                    DUE.is("weight of " + n + " times " + weight, x.satisfy(), n * weight);
                }
            }
        }
        PolicyScript mixed = Due.draft(new int[] {97, 11, 2}, 64, 128, 192, 129);
        Due.holdAll(mixed);
        mixed.join(4, 4);
        mixed.seal();
        DUE.is("weight of a key, two hashes and a time", mixed.satisfy(), 97 + 22 + 2);
    }

    /** Lock 7 alone (mask 128) against locks 0 .. n - 1 together (mask up to 127), equal in weight. */
    private static void masks() {
        for (int n = 1; n <= 7; n++) {
            PolicyScript x = new PolicyScript(8, 10 * n, 10, 1);
            Due.holdAll(x);
            for (int i = 0; i < 7; i++) {
                x.lock(PolicyScript.HASH, i);
            }
            x.join(n, 7);
            x.lock(PolicyScript.KEY, 0);
            x.join(1, 2);
            x.seal();
            DUE.is("satisfy()", x.satisfy(), 10 * n);
            DUE.is("lock 7 in the witness", x.slot(7), 0);
            for (int i = 0; i < 7; i++) {
                DUE.is("lock " + i + " in the witness", x.slot(i), i < n ? 128 + i : 0);
            }
        }
    }

    private static PolicyScript twoHashesOrKey(int keyWeight) {
        PolicyScript x = Due.draft(new int[] {keyWeight, 10, 1}, 128, 129);
        x.join(2, 2);
        x.lock(PolicyScript.KEY, 0);
        x.join(1, 2);
        x.seal();
        Due.holdAll(x);
        return x;
    }

    /** The set with the greater mask is one unit lighter, then one unit heavier. */
    private static void betterByWeight() {
        for (int keyWeight = 19; keyWeight <= 21; keyWeight += 2) {
            PolicyScript x = twoHashesOrKey(keyWeight);
            DUE.is("satisfy()", x.satisfy(), Math.min(20, keyWeight));
            DUE.is("slot(2)", x.slot(2), keyWeight == 19 ? 64 : 0);
            x.place(0, PolicyScript.HASH, 0);
            x.place(1, 0, 0);
            x.place(2, PolicyScript.KEY, 0);
            DUE.is("malleate()", x.malleate(), Math.min(20, keyWeight));
        }
    }

    private static void betterByMask() {
        for (int first = 0; first < 8; first++) {
            PolicyScript x = Due.hashes(1, 8);
            for (int i = first; i < 8; i++) {
                x.hold(PolicyScript.HASH, i, true);
            }
            x.satisfy();
            DUE.is("slot(" + first + ")", x.slot(first), 128 + first);
            x.malleate();
            DUE.is("slot of the rewriting", x.slot(first == 0 ? 1 : 0), first == 0 ? 129 : 128);
        }
        PolicyScript y = twoHashesOrKey(20);
        DUE.is("satisfy() of equal weights", y.satisfy(), 20);
        DUE.same("slots, mask 3 before mask 4", Due.slots(y), "128 129 0 0 0 0 0 0");
    }

    private static void oneSlotForEachLock() {
        for (int n = 2; n <= 8; n++) {
            PolicyScript x = Due.hashes(1, n);
            for (int i = 0; i < 8; i++) {
                int due = i < n ? 0 : PolicyScript.BAD;
                DUE.is("place(" + i + ", 3, 63) of " + n, x.place(i, PolicyScript.AFTER, 63 - i), due);
            }
            for (int i = 0; i < 8; i++) {
                DUE.is("slot(" + i + ") of " + n, x.slot(i), i < n ? 255 - i : 0);
            }
        }
    }

    private static void everyContent() {
        PolicyScript x = Due.hashes(1, 2);
        Due.holdAll(x);
        DUE.is("slot(1) empty", x.slot(1), 0);
        for (int kind = 1; kind <= 3; kind++) {
            for (int number = 0; number <= (kind == 3 ? 63 : 7); number++) {
                x.place(1, kind, number);
                DUE.is("slot(1)", x.slot(1), kind * 64 + number);
                x.place(1, 0, number);
                DUE.is("slot(1) emptied", x.slot(1), 0);
            }
        }
    }

    private static void emptySlots() {
        for (State state : State.values()) {
            PolicyScript x = state.make();
            if (state.isSealed()) {
                x.reopen();
            }
            DUE.same("slots of a draft, " + state, Due.slots(x), "0 0 0 0 0 0 0 0");
            x.reopen();
            for (int i = 0; i < 4; i++) {
                x.lock(PolicyScript.KEY, 0);
            }
            x.join(1, 4);
            x.seal();
            DUE.same("slots just sealed, " + state, Due.slots(x), "0 0 0 0 0 0 0 0");
            DUE.is("spend() just sealed, " + state, x.spend(), PolicyScript.SHORT);
            DUE.is("variants() just sealed, " + state, x.variants(), 0);
        }
    }

    private static void open() {
        for (int number = 0; number <= 63; number++) {
            for (int clock = 0; clock <= 63; clock++) {
                boolean open = number <= clock;
                PolicyScript x = Due.single(PolicyScript.AFTER, number);
                x.setTime(clock);
                String when = "after " + number + " at " + clock;
                DUE.is("variants() " + when, x.variants(), open ? 1 : 0);
                DUE.is("satisfy() " + when, x.satisfy(), open ? 1 : PolicyScript.NONE);
                DUE.is("place() " + when, x.place(0, PolicyScript.AFTER, number), open ? 1 : 0);
                int judged = open ? PolicyScript.ACCEPTED : PolicyScript.WRONG;
                DUE.is("spend() " + when, x.spend(), judged);
                x.place(0, 0, 0);
                DUE.is("malleate() " + when, x.malleate(), open ? 1 : PolicyScript.NONE);
            }
        }
    }

    /** Each fit pair in the slot of each lock; the clock at 63 lets time have no say. */
    private static void fitsByCode() {
        for (int lock = 64; lock < 256; lock++) {
            if (lock < 192 && lock % 64 > 7) {
                continue;
            }
            PolicyScript x = Due.single(lock / 64, lock % 64);
            Due.holdAll(x);
            x.setTime(63);
            for (int content = 64; content < 256; content++) {
                if (content < 192 && content % 64 > 7) {
                    continue;
                }
                int fits = content == lock ? 1 : 0;
                DUE.is(content + " in " + lock, x.place(0, content / 64, content % 64), fits);
                int judged = fits == 1 ? PolicyScript.ACCEPTED : PolicyScript.WRONG;
                DUE.is("spend() with " + content + " in " + lock, x.spend(), judged);
            }
        }
    }

    private static void fitsByTime() {
        PolicyScript x = Due.single(PolicyScript.AFTER, 30);
        int[] clocks = {63, 30, 29, 0, 29, 30, 31};
        for (int clock : clocks) {
            x.setTime(clock);
            int fits = clock >= 30 ? 1 : 0;
            DUE.is("place(0, 3, 30) at " + clock, x.place(0, PolicyScript.AFTER, 30), fits);
        }
        for (int clock : clocks) {
            x.setTime(clock);
            int judged = clock >= 30 ? PolicyScript.ACCEPTED : PolicyScript.WRONG;
            DUE.is("spend() at " + clock, x.spend(), judged);
        }
        PolicyScript y = Due.single(PolicyScript.KEY, 7);
        Due.holdAll(y);
        DUE.is("a key at 0", y.place(0, PolicyScript.KEY, 7), 1);
    }

    /** Of each two secrets one is held alone, so none can stand for another. */
    private static void sixteenSecrets() {
        for (int secret = 0; secret < 16; secret++) {
            PolicyScript x = new PolicyScript(2, 1, 1, 1);
            x.hold(1 + secret / 8, secret % 8, true);
            for (int other = 0; other < 16; other++) {
                int due = other == secret ? 1 : 0;
                DUE.is("holds", x.holds(1 + other / 8, other % 8), due);
                x.reopen();
                x.lock(1 + other / 8, other % 8);
                x.seal();
                DUE.is("satisfy()", x.satisfy(), due == 1 ? 1 : PolicyScript.NONE);
            }
        }
    }

    private static void firstConditionDecides() {
        PolicyScript full = State.FULL_DRAFT.make();
        DUE.is("an unfit lock in a full draft", full.lock(0, 0), PolicyScript.BAD);
        DUE.is("a bad join of too few roots", full.join(9, 8), PolicyScript.BAD);
        DUE.is("place() of no lock in a draft", full.place(-1, 0, 0), PolicyScript.DRAFT);
        PolicyScript sealed = State.WRONG_SLOTS.make();
        DUE.is("an unfit lock when sealed", sealed.lock(0, 0), PolicyScript.SEALED);
        DUE.is("a further lock when sealed and full", sealed.lock(1, 0), PolicyScript.SEALED);
        DUE.is("a bad join when sealed", sealed.join(0, 0), PolicyScript.SEALED);
        DUE.is("a join of too few roots when sealed", sealed.join(1, 2), PolicyScript.SEALED);
        DUE.is("emptying no lock", sealed.place(4, 0, 0), PolicyScript.BAD);
        DUE.is("no lock and no secret", sealed.place(4, 1, 1), PolicyScript.BAD);
        DUE.is("an unfit pair that is not held", sealed.place(0, 1, 8), PolicyScript.BAD);
        DUE.is("kind 0 with a number that is not fit", sealed.place(1, 0, -1), 0);
        DUE.is("a wrong slot in a short witness", sealed.spend(), PolicyScript.WRONG);
        DUE.is("neither TRUE nor MINIMAL", State.JUST_SEALED.make().spend(), PolicyScript.SHORT);
    }

    private static void refusalsChangeNothing() {
        for (State state : State.values()) {
            for (int call = 0; call < 14; call++) {
                PolicyScript x = state.make();
                if (answer(x, call) < 0) {
                    DUE.still(state, "refused call " + call, x);
                }
            }
        }
    }

    private static int answer(PolicyScript x, int call) {
        return switch (call) {
            case 0 -> x.lock(PolicyScript.KEY, 3);
            case 1 -> x.lock(PolicyScript.KEY, 8);
            case 2 -> x.join(1, 2);
            case 3 -> x.join(3, 2);
            case 4 -> x.seal();
            case 5 -> x.hold(PolicyScript.AFTER, 0, true);
            case 6 -> x.holds(PolicyScript.HASH, 8);
            case 7 -> x.setTime(64);
            case 8 -> x.satisfy();
            case 9 -> x.malleate();
            case 10 -> x.variants();
            case 11 -> x.place(1, PolicyScript.KEY, 1);
            case 12 -> x.place(4, 0, 0);
            default -> x.earliest();
        };
    }
}
