/** Promise 4: sealing. */
public final class Promise04Test {
    private static final Due DUE = new Due();

    public static void main(String[] args) {
        rootsMustBeOne();
        singleLocks();
        signedOrNot();
        heldAndClockHaveNoSay();
        twice();
        DUE.end();
    }

    private static void rootsMustBeOne() {
        PolicyScript x = new PolicyScript(8, 1, 1, 1);
        String before = Due.view(x);
        DUE.refused("seal() of nothing", x, before, x.seal(), PolicyScript.ROOTS);
        x.lock(1, 0);
        x.lock(2, 0);
        before = Due.view(x);
        DUE.refused("seal() of two roots", x, before, x.seal(), PolicyScript.ROOTS);
        DUE.is("lock after the refusal", x.lock(3, 1), 2);
        DUE.is("join after the refusal", x.join(3, 3), 1);
        DUE.is("seal()", x.seal(), PolicyScript.SIGNED);
    }

    private static void singleLocks() {
        int[] due = {PolicyScript.SIGNED, PolicyScript.UNSIGNED, PolicyScript.UNSIGNED};
        for (int kind = 1; kind <= 3; kind++) {
            PolicyScript x = new PolicyScript(8, 1, 1, 1);
            x.setTime(7);
            x.lock(kind, 3);
            DUE.is("seal() of kind " + kind, x.seal(), due[kind - 1]);
            DUE.is("status()", x.status(), 1024 + 64 + 7);
            DUE.is("token(0)", x.token(0), kind * 64 + 3);
            DUE.same("slots", Due.slots(x), "0 0 0 0 0 0 0 0");
        }
    }

    private static void signedOrNot() {
        DUE.is("key or hash", sealOf(1, 1, 2), PolicyScript.UNSIGNED);
        DUE.is("key or after", sealOf(1, 1, 3), PolicyScript.UNSIGNED);
        DUE.is("key and hash", sealOf(2, 1, 2), PolicyScript.SIGNED);
        DUE.is("hash and after", sealOf(2, 2, 3), PolicyScript.UNSIGNED);
        DUE.is("key or key", sealOf(1, 1, 1), PolicyScript.SIGNED);
        DUE.is("two of key, hash, after", sealOf(2, 1, 2, 3), PolicyScript.UNSIGNED);
        DUE.is("two of key, key, after", sealOf(2, 1, 1, 3), PolicyScript.SIGNED);
    }

    private static int sealOf(int k, int... kinds) {
        PolicyScript x = new PolicyScript(8, 1, 1, 1);
        for (int kind : kinds) {
            x.lock(kind, 5);
        }
        x.join(k, kinds.length);
        return x.seal();
    }

    private static void heldAndClockHaveNoSay() {
        PolicyScript x = new PolicyScript(8, 1, 1, 1);
        x.hold(PolicyScript.KEY, 0, true);
        x.lock(PolicyScript.KEY, 0);
        DUE.is("seal() with the key held", x.seal(), PolicyScript.SIGNED);
        DUE.same("held", Due.held(x), "1000000000000000");
        x.reopen();
        x.lock(PolicyScript.AFTER, 63);
        DUE.is("seal() before the time", x.seal(), PolicyScript.UNSIGNED);
    }

    private static void twice() {
        PolicyScript x = Due.hashes(1, 2);
        x.malleate();
        String before = Due.view(x);
        DUE.refused("seal() when sealed", x, before, x.seal(), PolicyScript.SEALED);
    }
}
