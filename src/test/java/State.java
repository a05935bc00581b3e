import java.util.Arrays;

/**
 * The states in which a call can find an object. But for the first and the last, key 0, key 5 and
 * hash 2 are held; at most 4 locks go into a policy.
 */
enum State {
    START, EMPTY_DRAFT, ONE_ROOT, TWO_ROOTS, FULL_DRAFT, JOINED_DRAFT, REOPENED,
    JUST_SEALED, WITNESS, WRONG_SLOTS, FULL_SLOTS, LOOSE_SLOTS, CLOCK_BACK, NO_SIGNATURE;

    boolean isSealed() {
        return compareTo(JUST_SEALED) >= 0;
    }

    static State[] drafts() {
        return Arrays.copyOfRange(values(), 0, JUST_SEALED.ordinal());
    }

    static State[] sealedOnes() {
        return Arrays.copyOfRange(values(), JUST_SEALED.ordinal(), values().length);
    }

    PolicyScript make() {
        PolicyScript x = new PolicyScript(4, 70, 30, 5);
        if (this == START) {
            return x;
        }
        x.setTime(21);
        x.hold(PolicyScript.KEY, 0, true);
        x.hold(PolicyScript.KEY, 5, true);
        x.hold(PolicyScript.HASH, 2, true);
        if (this != EMPTY_DRAFT) {
            feed(x);
        }
        if (this == REOPENED || isSealed()) {
            x.seal();
            fill(x);
        }
        if (this == REOPENED) {
            x.satisfy();
            x.reopen();
        }
        return x;
    }

    private void feed(PolicyScript x) {
        x.lock(PolicyScript.KEY, 0);
        if (this == ONE_ROOT) {
            return;
        }
        x.lock(PolicyScript.KEY, 1);
        if (this == TWO_ROOTS) {
            return;
        }
        x.lock(PolicyScript.HASH, 2);
        x.lock(PolicyScript.AFTER, 20);
        if (this != FULL_DRAFT) {
            x.join(1, 3);
            x.join(2, 2);
        }
    }

    private void fill(PolicyScript x) {
        if (this == WITNESS || this == CLOCK_BACK) {
            x.satisfy();
        }
        if (this == CLOCK_BACK) {
            x.setTime(19);
        }
        if (this == WRONG_SLOTS) {
            x.place(0, PolicyScript.KEY, 5);
            x.place(3, PolicyScript.KEY, 0);
        }
        if (this == FULL_SLOTS) {
            x.place(1, PolicyScript.AFTER, 63);
        }
        if (this == FULL_SLOTS || this == LOOSE_SLOTS) {
            x.place(0, PolicyScript.KEY, 0);
            x.place(2, PolicyScript.HASH, 2);
            x.place(3, PolicyScript.AFTER, 20);
        }
        if (this == NO_SIGNATURE) {
            x.place(2, PolicyScript.HASH, 2);
            x.place(3, PolicyScript.AFTER, 20);
            x.hold(PolicyScript.KEY, 0, false);
        }
    }

    /**
     * What a run of further calls answers: objects that differ in anything differ in it. Calls that
     * read come late, so that what an earlier one of them altered is not altered here once more.
     */
    static String future(PolicyScript x) {
        StringBuilder told = new StringBuilder();
        use(x, told);
        told.append(' ').append(Due.view(x));
        told.append(" lock ").append(x.lock(PolicyScript.HASH, 2));
        told.append(" join ").append(x.join(1, 2)).append(' ').append(x.join(3, 4));
        told.append(" seal ").append(x.seal());
        use(x, told);
        x.reopen();
        int locks = 0;
        while (locks < 10 && x.lock(1 + locks % 3, 0) >= 0) {
            locks++;
        }
        told.append(" limit ").append(locks).append(x.join(locks, locks)).append(x.seal());
        Due.holdAll(x);
        told.append(" weights ").append(x.satisfy());
        return told.toString();
    }

    private static void use(PolicyScript x, StringBuilder told) {
        told.append(" spend ").append(x.spend()).append(" variants ").append(x.variants());
        told.append(" earliest ").append(x.earliest()).append(": ").append(Due.slots(x));
        for (int i = 0; i < 2; i++) {
            told.append(" malleate ").append(x.malleate()).append(": ").append(Due.slots(x));
        }
        told.append(" satisfy ").append(x.satisfy()).append(": ").append(Due.slots(x));
        for (int lock = 0; lock < 4; lock++) {
            told.append(" place ").append(x.place(lock, PolicyScript.AFTER, 20)).append(x.spend());
        }
    }
}
