/** Promise 17: status. */
public final class Promise17Test {
    private static final Due DUE = new Due();

    public static void main(String[] args) {
        PolicyScript x = new PolicyScript(8, 1, 1, 1);
        DUE.is("status() at the start", x.status(), 0);
        for (int i = 1; i <= 8; i++) {
            x.lock(1, 0);
            DUE.is("status() with " + i + " roots", x.status(), 64 * i);
        }
        x.setTime(63);
        DUE.is("status() at 63", x.status(), 63 + 64 * 8);
        x.join(3, 3);
        DUE.is("status() after join(3, 3)", x.status(), 63 + 64 * 6);
        x.join(1, 6);
        DUE.is("status() after join(1, 6)", x.status(), 63 + 64);
        x.seal();
        DUE.is("status() sealed", x.status(), 63 + 64 + 1024);
        DUE.is("status() again", x.status(), 63 + 64 + 1024);
        x.setTime(0);
        DUE.is("status() sealed at 0", x.status(), 64 + 1024);
        x.hold(1, 0, true);
        x.satisfy();
        DUE.is("status() with a witness", x.status(), 64 + 1024);
        x.setTime(17);
        x.reopen();
        DUE.is("status() reopened", x.status(), 17);
        DUE.end();
    }
}
