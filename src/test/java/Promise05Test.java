/** Promise 5: reopening. */
public final class Promise05Test {
    private static final Due DUE = new Due();

    public static void main(String[] args) {
        fromSealed();
        fromDraft();
        limitAndWeightsStay();
        DUE.end();
    }

    private static void fromSealed() {
        PolicyScript x = Due.keyAndOneOfThree();
        x.hold(PolicyScript.KEY, 0, true);
        x.hold(PolicyScript.HASH, 2, true);
        x.setTime(30);
        x.satisfy();
        x.reopen();
        DUE.is("status()", x.status(), 30);
        DUE.is("token(0)", x.token(0), 0);
        DUE.same("slots", Due.slots(x), "0 0 0 0 0 0 0 0");
        DUE.same("held", Due.held(x), "1000000000100000");
        DUE.is("spend()", x.spend(), PolicyScript.DRAFT);
        DUE.is("join(1, 2)", x.join(1, 2), PolicyScript.ROOTS);
        for (int i = 0; i < 4; i++) {
            DUE.is("lock after reopen()", x.lock(PolicyScript.KEY, 0), i);
        }
        x.join(1, 4);
        x.seal();
        DUE.same("slots of the next policy", Due.slots(x), "0 0 0 0 0 0 0 0");
        DUE.is("variants() of the next policy", x.variants(), 0);
    }

    private static void fromDraft() {
        PolicyScript x = new PolicyScript(8, 1, 1, 1);
        x.lock(1, 1);
        x.lock(2, 2);
        x.reopen();
        DUE.is("status()", x.status(), 0);
        DUE.is("token(0)", x.token(0), 0);
        DUE.is("seal()", x.seal(), PolicyScript.ROOTS);
        DUE.is("lock(2, 3)", x.lock(2, 3), 0);
        DUE.is("token(0) of the new draft", x.token(0), 131);
        DUE.is("token(1) of the new draft", x.token(1), 0);
        x.reopen();
        x.reopen();
        DUE.is("status() of an empty draft", x.status(), 0);
    }

    private static void limitAndWeightsStay() {
        PolicyScript x = new PolicyScript(3, 11, 12, 13);
        x.hold(PolicyScript.KEY, 0, true);
        x.hold(PolicyScript.HASH, 0, true);
        for (int round = 0; round < 3; round++) {
            for (int kind = 1; kind <= 3; kind++) {
                x.lock(kind, 0);
            }
            DUE.is("fourth lock", x.lock(1, 0), PolicyScript.FULL);
            x.join(3, 3);
            x.seal();
            DUE.is("satisfy()", x.satisfy(), 36);
            x.reopen();
        }
    }
}
