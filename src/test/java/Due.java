import java.util.ArrayList;
import java.util.List;
import java.util.TreeSet;

/** Compares answers with the ones that are due, and keeps count of those that differ. */
final class Due {
    private static final int MOST_TOLD = 20;

    private int wrong = 0;
    private int wrongInSentence = 0;
    private String sentence = "";

    /** Runs the test of one sentence of the document; what differs is told under that sentence. */
    void sentence(String words, Runnable test) {
        sentence = words;
        wrongInSentence = 0;
        try {
            test.run();
        } catch (RuntimeException thrown) {
            differs("a call threw " + thrown);
        }
    }

    void is(String call, int got, int want) {
        if (got != want) {
            differs(call + " answered " + got + ", due is " + want);
        }
    }

    void same(String what, String got, String want) {
        if (!got.equals(want)) {
            differs(what + ": seen is " + got + ", due is " + want);
        }
    }

    /** The object can't be told from a new one in that state, now or by any later answer. */
    void still(State state, String after, PolicyScript x) {
        same("after " + after + " in " + state, State.future(x), State.future(state.make()));
    }

    private void differs(String what) {
        wrong++;
        wrongInSentence++;
        if (wrongInSentence == 1) {
            System.out.println("broken: \"" + sentence + "\"");
        }
        if (wrongInSentence <= MOST_TOLD) {
            System.out.println("  " + what);
        }
    }

    void end() {
        System.out.println(wrong == 0 ? "all answers are as due" : wrong + " answers are not as due");
        if (wrong != 0) {
            System.exit(1);
        }
    }

    /**
     * The ints from -70 to 330 and those next to each power of two and its negative, the least and
     * the greatest int among them: where a narrowing, a shift or a product would wrap around.
     */
    static TreeSet<Integer> ints() {
        TreeSet<Integer> ints = new TreeSet<>();
        for (int i = -70; i <= 330; i++) {
            ints.add(i);
        }
        for (int power = 8; power < 32; power++) {
            for (int i = -9; i <= 9; i++) {
                ints.add((1 << power) + i);
                ints.add(-(1 << power) + i);
            }
        }
        return ints;
    }

    /** Of those, the ones below and above a range. */
    static TreeSet<Integer> intsOutside(int least, int greatest) {
        TreeSet<Integer> ints = ints();
        ints.subSet(least, true, greatest, true).clear();
        return ints;
    }

    /** Pairs that are not fit; of some of them kind * 64 + number is the code of a pair that is. */
    static List<int[]> unfitPairs() {
        List<int[]> pairs = new ArrayList<>();
        int[] numbers = {Integer.MIN_VALUE, -1, 0, 1, 7, 8, 63, 64, Integer.MAX_VALUE};
        for (int kind : intsOutside(1, 3)) {
            for (int number : numbers) {
                pairs.add(new int[] {kind, number});
            }
        }
        for (int kind = -1; kind <= 5; kind++) {
            boolean time = kind == PolicyScript.AFTER;
            boolean secret = kind == PolicyScript.KEY || kind == PolicyScript.HASH;
            for (int number : time ? intsOutside(0, 63) : secret ? intsOutside(0, 7) : ints()) {
                pairs.add(new int[] {kind, number});
            }
        }
        return pairs;
    }

    /** All that can be read of an object without altering it. */
    static String view(PolicyScript x) {
        return policy(x) + " slots " + slots(x) + " held " + held(x);
    }

    static String viewWithoutSlots(PolicyScript x) {
        return policy(x) + " held " + held(x);
    }

    private static String policy(PolicyScript x) {
        StringBuilder seen = new StringBuilder("status " + x.status() + " tokens");
        for (int i = 0; i < 16; i++) {
            seen.append(' ').append(x.token(i));
        }
        return seen.toString();
    }

    static String slots(PolicyScript x) {
        StringBuilder seen = new StringBuilder();
        for (int i = 0; i < 8; i++) {
            seen.append(i == 0 ? "" : " ").append(x.slot(i));
        }
        return seen.toString();
    }

    static String held(PolicyScript x) {
        StringBuilder seen = new StringBuilder();
        for (int kind = 1; kind <= 2; kind++) {
            for (int number = 0; number < 8; number++) {
                seen.append(x.holds(kind, number));
            }
        }
        return seen.toString();
    }

    static void holdAll(PolicyScript x) {
        for (int number = 0; number < 8; number++) {
            x.hold(PolicyScript.KEY, number, true);
            x.hold(PolicyScript.HASH, number, true);
        }
    }

    /** A draft with these locks, each told as kind * 64 + number, and a limit of 8. */
    static PolicyScript draft(int[] weights, int... codes) {
        PolicyScript x = new PolicyScript(8, weights[0], weights[1], weights[2]);
        for (int code : codes) {
            x.lock(code / 64, code % 64);
        }
        return x;
    }

    /** A sealed policy with the weights 70, 30 and 5: key 0, and one of key 1, hash 2, after 20. */
    static PolicyScript keyAndOneOfThree() {
        PolicyScript x = draft(new int[] {70, 30, 5}, 64, 65, 130, 212);
        x.join(1, 3);
        x.join(2, 2);
        x.seal();
        return x;
    }

    /** A sealed policy with k of the hashes 0 .. n - 1, every weight 10. */
    static PolicyScript hashes(int k, int n) {
        PolicyScript x = new PolicyScript(8, 10, 10, 10);
        for (int i = 0; i < n; i++) {
            x.lock(PolicyScript.HASH, i);
        }
        x.join(k, n);
        x.seal();
        return x;
    }

    /** One of eight hashes, all held; but two that follow each other count together only. */
    static PolicyScript onePairOfEight(int first) {
        PolicyScript x = new PolicyScript(8, 10, 10, 10);
        for (int i = 0; i < 8; i++) {
            x.lock(PolicyScript.HASH, i);
            if (i == first + 1) {
                x.join(2, 2);
            }
        }
        x.join(1, 7);
        x.seal();
        holdAll(x);
        return x;
    }

    /** A sealed policy of one lock, with the weights 3, 2 and 1. */
    static PolicyScript single(int kind, int number) {
        PolicyScript x = new PolicyScript(8, 3, 2, 1);
        x.lock(kind, number);
        x.seal();
        return x;
    }
}
