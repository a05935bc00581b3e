/** Promise 8: setting the clock. */
public final class Promise08Test {
    private static final Due DUE = new Due();

    public static void main(String[] args) {
        PolicyScript draft = new PolicyScript(8, 1, 1, 1);
        draft.lock(1, 0);
        draft.hold(2, 5, true);
        moves(draft);
        moves(Due.keyAndOneOfThree());
        slotsStay();
        DUE.end();
    }

    private static void moves(PolicyScript x) {
        String atZero = Due.view(x);
        int status = x.status();
        DUE.is("setTime(0)", x.setTime(0), 0);
        DUE.is("setTime(63)", x.setTime(63), 0);
        DUE.is("setTime(63) again", x.setTime(63), 63);
        DUE.is("setTime(20)", x.setTime(20), 63);
        DUE.is("status()", x.status(), status + 20);
        String before = Due.view(x);
        for (int time : new int[] {-1, 64, 65, Integer.MIN_VALUE, Integer.MAX_VALUE}) {
            DUE.refused("setTime(" + time + ")", x, before, x.setTime(time), PolicyScript.BAD);
        }
        DUE.is("setTime(0) back", x.setTime(0), 20);
        DUE.same("back at 0", Due.view(x), atZero);
    }

    private static void slotsStay() {
        PolicyScript x = Due.keyAndOneOfThree();
        x.hold(1, 0, true);
        x.setTime(20);
        DUE.is("satisfy()", x.satisfy(), 75);
        x.setTime(19);
        DUE.same("slots", Due.slots(x), "64 0 0 212 0 0 0 0");
        DUE.same("held", Due.held(x), "1000000000000000");
        DUE.is("spend() too early", x.spend(), PolicyScript.WRONG);
        x.setTime(20);
        DUE.is("spend() in time", x.spend(), PolicyScript.ACCEPTED);
    }
}
