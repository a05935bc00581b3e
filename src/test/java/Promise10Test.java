/** Promise 10: the onlooker's rewriting. */
public final class Promise10Test {
    private static final Due DUE = new Due();

    public static void main(String[] args) {
        DUE.sentence("1. The policy is not sealed: DRAFT.", Promise10Test::draft);
        DUE.sentence("2. Let F be the set of locks whose slot is not empty, whatever the content.",
            Promise10Test::filledWhateverTheContent);
        DUE.sentence("each KEY lock whose code is the content of any slot (its own or another lock's);",
            Promise10Test::shownKeys);
        DUE.sentence("every HASH lock;", Promise10Test::everyHash);
        DUE.sentence("each AFTER lock whose number is open.", Promise10Test::openTimes);
        DUE.sentence("No MINIMAL subset of A differs from F: NONE, and the slots stay as they were.",
            Promise10Test::noneDiffers);
        DUE.sentence("(this includes the case that A has no MINIMAL subset)", Promise10Test::noneAtAll);
        DUE.sentence("3. Otherwise let S be the one of the MINIMAL subsets of A differing from F",
            Promise10Test::differingFromF);
        DUE.sentence("that is BETTER than all others of these.", Promise10Test::better);
        DUE.sentence("Each lock in S gets its own code as the content of its slot, all other slots become"
            + " empty,", Promise10Test::slots);
        DUE.sentence("and the answer is the weight of S.", Promise10Test::answer);
        edges();
        DUE.end();
    }

    private static void edges() {
        DUE.sentence("F and A are taken from the slots as they are before the call.",
            Promise10Test::slotsBefore);
        DUE.sentence("A subset differs from F when it is not the same set of locks; contents play no part"
            + " in that comparison.", Promise10Test::contentsPlayNoPart);
        DUE.sentence("F itself need be neither TRUE nor MINIMAL,", Promise10Test::anyF);
        DUE.sentence("nor do its locks need to FIT.", Promise10Test::unfitF);
        DUE.sentence("What is held does not matter.", Promise10Test::heldDoesNotMatter);
        DUE.sentence("The policy, what is held and the clock do not change.",
            Promise10Test::allElseStays);
    }

    private static void draft() {
        for (State state : State.drafts()) {
            PolicyScript x = state.make();
            DUE.is("malleate() in " + state, x.malleate(), PolicyScript.DRAFT);
            DUE.still(state, "malleate()", x);
        }
    }

    /** Two of three hashes; each pair is F in turn, with each content that can stand in a slot. */
    private static void filledWhateverTheContent() {
        for (int pair : new int[] {3, 5, 6}) {
            for (int content : new int[] {64, 71, 128, 130, 135, 192, 255}) {
                PolicyScript x = Due.hashes(2, 3);
                Due.holdAll(x);
                for (int i = 0; i < 3; i++) {
                    if ((pair >> i & 1) == 1) {
                        x.place(i, content / 64, content % 64);
                    }
                }
                x.malleate();
                String due = pair == 3 ? "128 0 130 0 0 0 0 0" : "128 129 0 0 0 0 0 0";
                DUE.same("slots, F being " + pair + " with " + content, Due.slots(x), due);
            }
        }
        outsideTheOnlookersSet();
    }

    /** After 63 is filled and not open: it belongs to F all the same, so F is not {0}. */
    private static void outsideTheOnlookersSet() {
        PolicyScript x = Due.draft(new int[] {3, 2, 1}, 128, 255);
        x.join(1, 2);
        x.seal();
        Due.holdAll(x);
        x.place(0, PolicyScript.HASH, 0);
        DUE.is("malleate() of {0}", x.malleate(), PolicyScript.NONE);
        x.place(1, PolicyScript.AFTER, 63);
        DUE.is("malleate() of {0, 1}", x.malleate(), 2);
        DUE.same("slots", Due.slots(x), "128 0 0 0 0 0 0 0");
    }

    /** One of eight keys; key 0 .. 7 is shown in each slot in turn. */
    private static void shownKeys() {
        for (int key = 0; key < 8; key++) {
            for (int shownAt = 0; shownAt < 8; shownAt++) {
                PolicyScript x = Due.draft(new int[] {3, 2, 1}, 64, 65, 66, 67, 68, 69, 70, 71);
                x.join(1, 8);
                x.seal();
                Due.holdAll(x);
                x.place(shownAt, PolicyScript.KEY, key);
                int due = shownAt == key ? PolicyScript.NONE : 3;
                DUE.is("malleate(), key " + key + " in slot " + shownAt, x.malleate(), due);
                DUE.is("slot(" + key + ")", x.slot(key), 64 + key);
                DUE.is("slot(" + (7 - key) + ")", x.slot(7 - key), 0);
            }
        }
        PolicyScript y = Due.draft(new int[] {3, 2, 1}, 67, 68);
        y.join(1, 2);
        y.seal();
        Due.holdAll(y);
        DUE.is("malleate() with no key shown", y.malleate(), PolicyScript.NONE);
        for (int content : new int[] {131, 195, 66, 71}) {
            y.place(1, content / 64, content % 64);
            DUE.is("malleate() with " + content + " shown", y.malleate(), PolicyScript.NONE);
            DUE.is("slot(1)", y.slot(1), content);
        }
    }

    private static void everyHash() {
        for (int number = 0; number < 8; number++) {
            PolicyScript x = Due.single(PolicyScript.HASH, number);
            DUE.is("malleate() of hash " + number, x.malleate(), 2);
            DUE.is("slot(0)", x.slot(0), 128 + number);
        }
        PolicyScript y = Due.hashes(8, 8);
        DUE.is("malleate() of eight hashes", y.malleate(), 80);
    }

    private static void openTimes() {
        for (int number = 0; number <= 63; number++) {
            for (int clock = 0; clock <= 63; clock++) {
                PolicyScript x = Due.single(PolicyScript.AFTER, number);
                x.setTime(clock);
                int due = number <= clock ? 1 : PolicyScript.NONE;
                DUE.is("malleate() of " + number + " at " + clock, x.malleate(), due);
                DUE.is("slot(0)", x.slot(0), number <= clock ? 192 + number : 0);
            }
        }
        PolicyScript y = Due.draft(new int[] {1, 1, 1}, 197, 197);
        y.join(1, 2);
        y.seal();
        y.setTime(4);
        y.place(1, PolicyScript.AFTER, 5);
        DUE.is("malleate() with the code shown too early", y.malleate(), PolicyScript.NONE);
    }

    private static void noneDiffers() {
        PolicyScript x = Due.hashes(3, 3);
        x.malleate();
        DUE.is("malleate() of the only set", x.malleate(), PolicyScript.NONE);
        DUE.same("slots", Due.slots(x), "128 129 130 0 0 0 0 0");

        PolicyScript y = State.CLOCK_BACK.make();
        DUE.is("malleate() at 19", y.malleate(), 100);
        String before = Due.view(y);
        DUE.is("malleate() with no other set", y.malleate(), PolicyScript.NONE);
        DUE.same("after NONE", Due.view(y), before);

        PolicyScript z = Due.draft(new int[] {10, 10, 10}, 128, 129, 64);
        z.join(2, 2);
        z.join(1, 2);
        z.seal();
        DUE.is("malleate() of hash 0, or hash 1 and key 0", z.malleate(), 10);
        DUE.is("malleate() where {0, 1} is TRUE and not MINIMAL", z.malleate(), PolicyScript.NONE);
        DUE.same("slots", Due.slots(z), "128 0 0 0 0 0 0 0");
    }

    private static void noneAtAll() {
        for (State state : new State[] {State.JUST_SEALED, State.NO_SIGNATURE}) {
            PolicyScript x = state.make();
            DUE.is("malleate() in " + state, x.malleate(), PolicyScript.NONE);
            DUE.still(state, "malleate()", x);
        }
        PolicyScript y = Due.single(PolicyScript.KEY, 0);
        y.place(0, PolicyScript.AFTER, 63);
        DUE.is("malleate() of a wrong slot", y.malleate(), PolicyScript.NONE);
        DUE.is("slot(0)", y.slot(0), 255);
    }

    private static void differingFromF() {
        PolicyScript x = Due.hashes(1, 8);
        for (int round = 0; round < 4; round++) {
            x.malleate();
            DUE.same("slots", Due.slots(x), round % 2 == 0 ? "128 0 0 0 0 0 0 0" : "0 129 0 0 0 0 0 0");
        }
        for (int filled = 2; filled < 8; filled++) {
            PolicyScript y = Due.hashes(1, 8);
            y.place(filled, PolicyScript.AFTER, 0);
            y.malleate();
            DUE.same("slots, F being lock " + filled, Due.slots(y), "128 0 0 0 0 0 0 0");
        }
    }

    /** Hash 0, or both times: weight decides, and at the same weight the mask, which is 1 and 6. */
    private static void better() {
        for (int hashWeight = 9; hashWeight <= 11; hashWeight++) {
            PolicyScript x = Due.draft(new int[] {1, hashWeight, 5}, 128, 192, 193);
            x.join(2, 2);
            x.join(1, 2);
            x.seal();
            x.setTime(1);
            DUE.is("malleate()", x.malleate(), Math.min(hashWeight, 10));
            String due = hashWeight == 11 ? "0 192 193 0 0 0 0 0" : "128 0 0 0 0 0 0 0";
            DUE.same("slots with " + hashWeight, Due.slots(x), due);
        }
        for (int k = 1; k <= 8; k++) {
            PolicyScript x = Due.hashes(k, 8);
            x.malleate();
            for (int i = 0; i < 8; i++) {
                DUE.is("slot(" + i + ") with " + k, x.slot(i), i < k ? 128 + i : 0);
            }
        }
    }

    private static void slots() {
        PolicyScript x = State.FULL_SLOTS.make();
        DUE.is("malleate()", x.malleate(), 75);
        DUE.same("slots", Due.slots(x), "64 0 0 212 0 0 0 0");
        x.malleate();
        DUE.same("slots", Due.slots(x), "64 0 130 0 0 0 0 0");
        PolicyScript y = State.WRONG_SLOTS.make();
        DUE.is("malleate() of wrong slots", y.malleate(), 100);
        DUE.same("slots", Due.slots(y), "64 0 130 0 0 0 0 0");
    }

    private static void answer() {
        PolicyScript x = Due.keyAndOneOfThree();
        Due.holdAll(x);
        x.place(2, PolicyScript.KEY, 0);
        DUE.is("malleate() with key 0 shown", x.malleate(), 100);
        x.setTime(20);
        DUE.is("malleate() at 20", x.malleate(), 75);
        x.setTime(19);
        x.place(1, PolicyScript.KEY, 1);
        x.place(2, PolicyScript.HASH, 2);
        x.place(3, 0, 0);
        DUE.is("malleate() of both keys and the hash", x.malleate(), 100);
        x.place(2, PolicyScript.KEY, 0);
        DUE.is("malleate() of {0, 2} with no other key", x.malleate(), PolicyScript.NONE);
        x.place(2, PolicyScript.KEY, 1);
        DUE.is("malleate() of {0, 2} with key 1 shown", x.malleate(), 140);
        for (int weight : new int[] {1, 99}) {
            PolicyScript y = Due.draft(new int[] {5, weight, 5}, 128, 129, 130, 131, 132, 133, 134, 135);
            y.join(8, 8);
            y.seal();
            DUE.is("malleate() of eight at " + weight, y.malleate(), 8 * weight);
        }
    }

    /** Key 0 stands in the slot of lock 1 alone: that slot is emptied, and lock 0 still gets it. */
    private static void slotsBefore() {
        PolicyScript x = Due.draft(new int[] {3, 2, 1}, 64, 65);
        x.join(1, 2);
        x.seal();
        Due.holdAll(x);
        x.place(1, PolicyScript.KEY, 0);
        DUE.is("malleate()", x.malleate(), 3);
        DUE.same("slots", Due.slots(x), "64 0 0 0 0 0 0 0");
        DUE.is("malleate() again", x.malleate(), PolicyScript.NONE);
        DUE.same("slots", Due.slots(x), "64 0 0 0 0 0 0 0");

        PolicyScript y = Due.draft(new int[] {3, 2, 1}, 64, 65);
        y.join(2, 2);
        y.seal();
        Due.holdAll(y);
        y.place(0, PolicyScript.KEY, 1);
        y.place(1, PolicyScript.KEY, 0);
        DUE.is("malleate() of {0, 1} crossed", y.malleate(), PolicyScript.NONE);
        DUE.same("slots", Due.slots(y), "65 64 0 0 0 0 0 0");
    }

    private static void contentsPlayNoPart() {
        for (int content : new int[] {64, 129, 135, 192, 255}) {
            PolicyScript x = Due.single(PolicyScript.HASH, 0);
            Due.holdAll(x);
            x.place(0, content / 64, content % 64);
            DUE.is("malleate() with " + content, x.malleate(), PolicyScript.NONE);
            DUE.is("slot(0)", x.slot(0), content);
            x.place(0, 0, 0);
            DUE.is("malleate() of the empty slot", x.malleate(), 2);
        }
    }

    /** Two of three hashes; F goes through every set of the locks. */
    private static void anyF() {
        for (int filled = 0; filled < 8; filled++) {
            PolicyScript x = Due.hashes(2, 3);
            Due.holdAll(x);
            for (int i = 0; i < 3; i++) {
                x.place(i, (filled >> i & 1) * 2, i);
            }
            DUE.is("malleate() of " + filled, x.malleate(), 20);
            String due = filled == 3 ? "128 0 130 0 0 0 0 0" : "128 129 0 0 0 0 0 0";
            DUE.same("slots from " + filled, Due.slots(x), due);
        }
    }

    private static void unfitF() {
        PolicyScript x = State.WRONG_SLOTS.make();
        DUE.is("spend() before", x.spend(), PolicyScript.WRONG);
        DUE.is("malleate() of wrong slots", x.malleate(), 100);
        DUE.is("spend() after", x.spend(), PolicyScript.ACCEPTED);
        PolicyScript y = State.CLOCK_BACK.make();
        DUE.is("spend() too early", y.spend(), PolicyScript.WRONG);
        DUE.is("malleate() of a time not open", y.malleate(), 100);
        DUE.is("spend() after", y.spend(), PolicyScript.ACCEPTED);
    }

    private static void heldDoesNotMatter() {
        for (State state : State.sealedOnes()) {
            PolicyScript x = state.make();
            PolicyScript none = state.make();
            PolicyScript all = state.make();
            Due.holdAll(all);
            for (int number = 0; number < 8; number++) {
                none.hold(PolicyScript.KEY, number, false);
                none.hold(PolicyScript.HASH, number, false);
            }
            for (int round = 0; round < 3; round++) {
                int due = x.malleate();
                DUE.is("malleate() with nothing held, " + state, none.malleate(), due);
                DUE.is("malleate() with all held, " + state, all.malleate(), due);
                DUE.same("slots with nothing held, " + state, Due.slots(none), Due.slots(x));
                DUE.same("slots with all held, " + state, Due.slots(all), Due.slots(x));
            }
        }
        DUE.is("malleate() with nothing held", Due.hashes(1, 2).malleate(), 10);
    }

    private static void allElseStays() {
        for (State state : State.sealedOnes()) {
            PolicyScript x = state.make();
            String before = Due.viewWithoutSlots(x);
            x.malleate();
            DUE.same("after malleate() in " + state, Due.viewWithoutSlots(x), before);
        }
    }
}
