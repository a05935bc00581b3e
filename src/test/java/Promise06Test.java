/** Promise 6: holding a secret. */
public final class Promise06Test {
    private static final Due DUE = new Due();

    public static void main(String[] args) {
        PolicyScript draft = new PolicyScript(8, 1, 1, 1);
        everySecret(draft);
        everySecret(Due.keyAndOneOfThree());
        badSecrets(draft);
        badSecrets(Due.keyAndOneOfThree());
        slotsStay();
        DUE.end();
    }

    private static void everySecret(PolicyScript x) {
        int status = x.status();
        for (int kind = 1; kind <= 2; kind++) {
            for (int number = 0; number < 8; number++) {
                StringBuilder only = new StringBuilder("0000000000000000");
                only.setCharAt((kind - 1) * 8 + number, '1');
                String name = "hold(" + kind + ", " + number + ", ";
                DUE.is(name + "false) at first", x.hold(kind, number, false), 0);
                DUE.is(name + "true)", x.hold(kind, number, true), 1);
                DUE.is(name + "true) again", x.hold(kind, number, true), 0);
                DUE.same("held", Due.held(x), only.toString());
                DUE.is(name + "false)", x.hold(kind, number, false), 1);
                DUE.is(name + "false) again", x.hold(kind, number, false), 0);
                DUE.same("held", Due.held(x), "0000000000000000");
            }
        }
        DUE.is("status()", x.status(), status);
    }

    private static void badSecrets(PolicyScript x) {
        int[][] pairs = {{0, 0}, {3, 0}, {3, 7}, {4, 0}, {-1, 0}, {1, -1}, {1, 8}, {2, -1}, {2, 8},
            {Integer.MIN_VALUE, 0}, {Integer.MAX_VALUE, 0}, {1, Integer.MIN_VALUE},
            {2, Integer.MAX_VALUE}, {1, 32}, {2, 32}};
        String before = Due.view(x);
        for (int[] pair : pairs) {
            for (int have = 0; have < 2; have++) {
                int got = x.hold(pair[0], pair[1], have == 1);
                DUE.refused("hold(" + pair[0] + ", " + pair[1] + ")", x, before, got, PolicyScript.BAD);
            }
        }
    }

    private static void slotsStay() {
        PolicyScript x = Due.keyAndOneOfThree();
        x.hold(1, 0, true);
        x.hold(2, 2, true);
        x.satisfy();
        DUE.is("hold(1, 0, false)", x.hold(1, 0, false), 1);
        DUE.is("hold(2, 2, false)", x.hold(2, 2, false), 1);
        DUE.same("slots", Due.slots(x), "64 0 130 0 0 0 0 0");
        DUE.is("spend()", x.spend(), PolicyScript.ACCEPTED);
        DUE.is("satisfy()", x.satisfy(), PolicyScript.NONE);
    }
}
