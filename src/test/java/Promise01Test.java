/** Promise 1: construction and the start. */
public final class Promise01Test {
    private static final Due DUE = new Due();

    public static void main(String[] args) {
        constants();
        start();
        int[] asked = {Integer.MIN_VALUE, -1, 0, 1, 2, 3, 5, 7, 8, 9, 100, Integer.MAX_VALUE};
        int[] kept = {2, 2, 2, 2, 2, 3, 5, 7, 8, 8, 8, 8};
        for (int i = 0; i < asked.length; i++) {
            lockLimit(asked[i], kept[i]);
        }
        int[] weights = {Integer.MIN_VALUE, -1, 0, 1, 2, 50, 98, 99, 100, Integer.MAX_VALUE};
        int[] clamped = {1, 1, 1, 1, 2, 50, 98, 99, 99, 99};
        for (int i = 0; i < weights.length; i++) {
            weight(new PolicyScript(8, weights[i], 40, 41), PolicyScript.KEY, clamped[i]);
            weight(new PolicyScript(8, 40, weights[i], 41), PolicyScript.HASH, clamped[i]);
            weight(new PolicyScript(8, 40, 41, weights[i]), PolicyScript.AFTER, clamped[i]);
        }
        DUE.end();
    }

    private static void constants() {
        int[] seen = {PolicyScript.KEY, PolicyScript.HASH, PolicyScript.AFTER, PolicyScript.NONE,
            PolicyScript.SEALED, PolicyScript.BAD, PolicyScript.FULL, PolicyScript.ROOTS,
            PolicyScript.DRAFT, PolicyScript.UNSIGNED, PolicyScript.SIGNED, PolicyScript.ACCEPTED,
            PolicyScript.WRONG, PolicyScript.SHORT, PolicyScript.LOOSE};
        int[] due = {1, 2, 3, -1, -2, -3, -4, -5, -6, 0, 1, 1, 2, 3, 4};
        for (int i = 0; i < due.length; i++) {
            DUE.is("constant " + i, seen[i], due[i]);
        }
    }

    private static void start() {
        PolicyScript x = new PolicyScript(4, 1, 1, 1);
        DUE.is("status() at the start", x.status(), 0);
        DUE.is("token(0) at the start", x.token(0), 0);
        DUE.is("slot(0) at the start", x.slot(0), 0);
        DUE.same("held at the start", Due.held(x), "0000000000000000");
        DUE.is("setTime(3) at the start", x.setTime(3), 0);
        DUE.is("seal() at the start", x.seal(), PolicyScript.ROOTS);
        DUE.is("spend() at the start", x.spend(), PolicyScript.DRAFT);
    }

    private static void lockLimit(int locks, int kept) {
        PolicyScript x = new PolicyScript(locks, 1, 1, 1);
        for (int round = 0; round < 2; round++) {
            for (int i = 0; i < kept; i++) {
                DUE.is("lock of " + locks, x.lock(PolicyScript.KEY, 0), i);
            }
            DUE.is("lock past " + locks, x.lock(PolicyScript.KEY, 0), PolicyScript.FULL);
            x.reopen();
        }
    }

    private static void weight(PolicyScript x, int kind, int due) {
        x.hold(PolicyScript.KEY, 0, true);
        x.hold(PolicyScript.HASH, 0, true);
        for (int round = 0; round < 2; round++) {
            x.lock(kind, 0);
            x.seal();
            DUE.is("weight of kind " + kind, x.satisfy(), due);
            x.reopen();
        }
    }
}
