/** Promise 11: counting the variants. */
public final class Promise11Test {
    private static final Due DUE = new Due();

    public static void main(String[] args) {
        draft();
        chooseKOfN();
        onlookersSet();
        clockCounts();
        ownSetIsCounted();
        DUE.end();
    }

    private static void draft() {
        PolicyScript x = new PolicyScript(8, 1, 1, 1);
        x.lock(2, 0);
        DUE.refused("variants() of a draft", x, Due.view(x), x.variants(), PolicyScript.DRAFT);
    }

    private static void chooseKOfN() {
        for (int n = 2; n <= 8; n++) {
            int choose = 1;
            for (int k = 1; k <= n; k++) {
                choose = choose * (n - k + 1) / k;
                PolicyScript x = Due.hashes(k, n);
                String before = Due.view(x);
                DUE.is("variants() of " + k + " of " + n, x.variants(), choose);
                DUE.same("after variants()", Due.view(x), before);
            }
        }
    }

    private static void onlookersSet() {
        PolicyScript x = Due.keyAndOneOfThree();
        x.hold(1, 0, true);
        x.hold(1, 1, true);
        DUE.is("variants() with nothing shown", x.variants(), 0);
        x.place(2, 1, 0);
        DUE.is("variants() with key 0 in slot 2", x.variants(), 1);
        x.place(3, 1, 1);
        DUE.is("variants() with key 1 in slot 3", x.variants(), 2);
        x.setTime(20);
        DUE.is("variants() at 20", x.variants(), 3);
        x.hold(1, 0, false);
        x.hold(1, 1, false);
        DUE.is("variants() with nothing held", x.variants(), 3);
    }

    private static void clockCounts() {
        PolicyScript x = new PolicyScript(8, 1, 1, 1);
        x.lock(3, 5);
        x.lock(3, 6);
        x.join(1, 2);
        x.seal();
        for (int time = 4; time <= 7; time++) {
            x.setTime(time);
            DUE.is("variants() at " + time, x.variants(), time == 4 ? 0 : time == 5 ? 1 : 2);
        }
    }

    private static void ownSetIsCounted() {
        PolicyScript x = Due.hashes(2, 2);
        DUE.is("variants() before", x.variants(), 1);
        x.malleate();
        DUE.is("variants() of the witness", x.variants(), 1);
    }
}
