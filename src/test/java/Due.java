/** Compares answers with the ones that are due, and keeps count of those that differ. */
final class Due {
    private int wrong = 0;

    void is(String call, int got, int want) {
        if (got != want) {
            wrong++;
            System.out.println(call + " answered " + got + ", due is " + want);
        }
    }

    void same(String what, String got, String want) {
        if (!got.equals(want)) {
            wrong++;
            System.out.println(what + ": seen is " + got + ", due is " + want);
        }
    }

    /** A refused call has its answer and changes nothing; run the call after view(x) was taken. */
    void refused(String call, PolicyScript x, String before, int got, int want) {
        is(call, got, want);
        same("after " + call, view(x), before);
    }

    void end() {
        System.out.println(wrong == 0 ? "all answers are as due" : wrong + " answers are not as due");
        if (wrong != 0) {
            System.exit(1);
        }
    }

    /** All that can be read of an object without altering it. */
    static String view(PolicyScript x) {
        StringBuilder seen = new StringBuilder("status " + x.status() + " tokens");
        for (int i = 0; i < 16; i++) {
            seen.append(' ').append(x.token(i));
        }
        return seen.append(" slots ").append(slots(x)).append(" held ").append(held(x)).toString();
    }

    static String slots(PolicyScript x) {
        StringBuilder seen = new StringBuilder();
        for (int i = 0; i < 8; i++) {
            seen.append(i == 0 ? "" : " ").append(x.slot(i));
        }
        return seen.toString();
    }

    static String held(PolicyScript x) {
        StringBuilder seen = new StringBuilder();
        for (int kind = 1; kind <= 2; kind++) {
            for (int number = 0; number < 8; number++) {
                seen.append(x.holds(kind, number));
            }
        }
        return seen.toString();
    }

    /** A sealed policy with the weights 70, 30 and 5: key 0, and one of key 1, hash 2, after 20. */
    static PolicyScript keyAndOneOfThree() {
        PolicyScript x = new PolicyScript(8, 70, 30, 5);
        x.lock(PolicyScript.KEY, 0);
        x.lock(PolicyScript.KEY, 1);
        x.lock(PolicyScript.HASH, 2);
        x.lock(PolicyScript.AFTER, 20);
        x.join(1, 3);
        x.join(2, 2);
        x.seal();
        return x;
    }

    /** A sealed policy with k of the hashes 0 .. n - 1, every weight 10. */
    static PolicyScript hashes(int k, int n) {
        PolicyScript x = new PolicyScript(8, 10, 10, 10);
        for (int i = 0; i < n; i++) {
            x.lock(PolicyScript.HASH, i);
        }
        x.join(k, n);
        x.seal();
        return x;
    }
}
