/** Promise 9: making a witness. */
public final class Promise09Test {
    private static final Due DUE = new Due();

    public static void main(String[] args) {
        draft();
        whatIsAtHand();
        leastWeight();
        leastMask();
        onlyNeeded();
        DUE.end();
    }

    private static void draft() {
        PolicyScript x = new PolicyScript(8, 1, 1, 1);
        DUE.refused("satisfy() of nothing", x, Due.view(x), x.satisfy(), PolicyScript.DRAFT);
        x.hold(1, 0, true);
        x.lock(1, 0);
        DUE.refused("satisfy() of a draft", x, Due.view(x), x.satisfy(), PolicyScript.DRAFT);
    }

    private static void whatIsAtHand() {
        PolicyScript x = Due.keyAndOneOfThree();
        x.hold(2, 2, true);
        x.hold(1, 1, true);
        DUE.refused("satisfy() without key 0", x, Due.view(x), x.satisfy(), PolicyScript.NONE);
        x.place(3, 3, 9);
        DUE.refused("satisfy() with a slot", x, Due.view(x), x.satisfy(), PolicyScript.NONE);
        x.hold(1, 0, true);
        DUE.is("satisfy() with key 0", x.satisfy(), 100);
        DUE.same("slots, the placed one emptied", Due.slots(x), "64 0 130 0 0 0 0 0");
        x.hold(2, 2, false);
        DUE.is("satisfy() without hash 2", x.satisfy(), 140);
        DUE.same("slots", Due.slots(x), "64 65 0 0 0 0 0 0");
        x.setTime(19);
        DUE.is("satisfy() at 19", x.satisfy(), 140);
        x.setTime(20);
        String held = Due.held(x);
        DUE.is("satisfy() at 20", x.satisfy(), 75);
        DUE.same("slots", Due.slots(x), "64 0 0 212 0 0 0 0");
        DUE.same("held", Due.held(x), held);
        DUE.is("status()", x.status(), 1024 + 64 + 20);
        x.hold(1, 0, false);
        DUE.refused("satisfy() without key 0", x, Due.view(x), x.satisfy(), PolicyScript.NONE);
    }

    /** Two hashes of weight 30 each are less than a key of 70, and two of 40 each are more. */
    private static void leastWeight() {
        for (int hashWeight = 30; hashWeight <= 40; hashWeight += 10) {
            PolicyScript x = new PolicyScript(8, 70, hashWeight, 5);
            x.lock(1, 0);
            x.lock(2, 0);
            x.lock(2, 1);
            x.join(2, 2);
            x.join(1, 2);
            x.seal();
            x.hold(1, 0, true);
            x.hold(2, 0, true);
            x.hold(2, 1, true);
            DUE.is("satisfy()", x.satisfy(), hashWeight == 30 ? 60 : 70);
            DUE.same("slots", Due.slots(x), hashWeight == 30 ? "0 128 129 0 0 0 0 0" : "64 0 0 0 0 0 0 0");
        }
    }

    private static void leastMask() {
        PolicyScript x = Due.hashes(2, 4);
        for (int i = 0; i < 4; i++) {
            x.hold(2, i, true);
        }
        DUE.is("satisfy() of equals", x.satisfy(), 20);
        DUE.same("slots", Due.slots(x), "128 129 0 0 0 0 0 0");
        x.hold(2, 0, false);
        x.satisfy();
        DUE.same("slots without hash 0", Due.slots(x), "0 129 130 0 0 0 0 0");

        PolicyScript y = new PolicyScript(8, 20, 10, 10);
        y.lock(2, 0);
        y.lock(2, 1);
        y.join(2, 2);
        y.lock(1, 0);
        y.join(1, 2);
        y.seal();
        y.hold(1, 0, true);
        y.hold(2, 0, true);
        y.hold(2, 1, true);
        DUE.is("satisfy() of equal weights", y.satisfy(), 20);
        DUE.same("slots, mask 3 before mask 4", Due.slots(y), "128 129 0 0 0 0 0 0");
    }

    private static void onlyNeeded() {
        PolicyScript x = new PolicyScript(8, 9, 8, 7);
        x.hold(1, 5, true);
        x.lock(1, 5);
        x.seal();
        DUE.is("satisfy() of one key", x.satisfy(), 9);
        DUE.is("satisfy() again", x.satisfy(), 9);
        DUE.is("spend()", x.spend(), PolicyScript.ACCEPTED);
    }
}
