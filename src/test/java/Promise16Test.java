/** Promise 16: reading a token. */
public final class Promise16Test {
    private static final Due DUE = new Due();

    public static void main(String[] args) {
        PolicyScript x = new PolicyScript(3, 1, 1, 1);
        tokens(x);
        x.lock(1, 7);
        x.lock(0, 0);
        x.join(1, 2);
        tokens(x, 71);
        x.lock(2, 0);
        x.join(0, 2);
        x.join(2, 2);
        tokens(x, 71, 128, 265);
        x.lock(3, 63);
        x.lock(3, 62);
        x.join(1, 2);
        tokens(x, 71, 128, 265, 255, 257);
        x.seal();
        x.lock(1, 1);
        x.join(1, 2);
        tokens(x, 71, 128, 265, 255, 257);
        x.reopen();
        tokens(x);
        x.lock(3, 0);
        tokens(x, 192);
        longest();
        DUE.end();
    }

    private static void tokens(PolicyScript x, int... due) {
        int status = x.status();
        for (int i = 0; i < 20; i++) {
            DUE.is("token(" + i + ")", x.token(i), i < due.length ? due[i] : 0);
        }
        for (int i : new int[] {-1, -2, 64, Integer.MIN_VALUE, Integer.MAX_VALUE}) {
            DUE.is("token(" + i + ")", x.token(i), 0);
        }
        DUE.is("status() after reading", x.status(), status);
    }

    private static void longest() {
        PolicyScript x = new PolicyScript(8, 1, 1, 1);
        x.lock(1, 0);
        for (int i = 1; i < 8; i++) {
            x.lock(1, i);
            x.join(1, 2);
        }
        tokens(x, 64, 65, 257, 66, 257, 67, 257, 68, 257, 69, 257, 70, 257, 71, 257);
    }
}
