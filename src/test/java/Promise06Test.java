/** Promise 6: holding a secret. */
public final class Promise06Test {
    private static final Due DUE = new Due();

    public static void main(String[] args) {
        DUE.sentence("hold(kind, number, have) works in any state, draft or sealed",
            Promise06Test::anyState);
        DUE.sentence("1. kind is neither KEY nor HASH,", Promise06Test::badKind);
        DUE.sentence("or number is not in 0..7: BAD.", Promise06Test::badNumber);
        DUE.sentence("2. Otherwise the secret (kind, number) is held exactly if have is true.",
            Promise06Test::heldIfHave);
        DUE.sentence("The answer is 1 if that is a change, 0 if it was so already.",
            Promise06Test::answer);
        DUE.sentence("No other secret is affected.", Promise06Test::noOther);
        DUE.sentence("Slots are not changed, even if they hold the code of a secret that is no longer"
            + " held.", Promise06Test::slotsStay);
        DUE.sentence("The policy and the clock do not change.", Promise06Test::policyAndClockStay);
        DUE.end();
    }

    private static void anyState() {
        for (State state : State.values()) {
            for (int kind = 1; kind <= 2; kind++) {
                for (int number = 0; number < 8; number++) {
                    PolicyScript x = state.make();
                    boolean before = x.holds(kind, number) == 1;
                    String call = "hold(" + kind + ", " + number + ", " + !before + ") in " + state;
                    DUE.is(call, x.hold(kind, number, !before), 1);
                    DUE.is("holds after " + call, x.holds(kind, number), before ? 0 : 1);
                    x.hold(kind, number, before);
                    DUE.still(state, call + " and back", x);
                }
            }
        }
    }

    private static void badKind() {
        for (State state : State.values()) {
            PolicyScript x = state.make();
            for (int kind : Due.intsOutside(1, 2)) {
                for (int number : new int[] {Integer.MIN_VALUE, -1, 0, 2, 7, 8, Integer.MAX_VALUE}) {
                    String call = "hold(" + kind + ", " + number + ") in " + state;
                    DUE.is(call, x.hold(kind, number, true), PolicyScript.BAD);
                    DUE.is(call, x.hold(kind, number, false), PolicyScript.BAD);
                }
            }
            DUE.still(state, "bad kinds", x);
        }
    }

    private static void badNumber() {
        for (State state : State.values()) {
            PolicyScript x = state.make();
            for (int number : Due.intsOutside(0, 7)) {
                for (int kind = 1; kind <= 2; kind++) {
                    String call = "hold(" + kind + ", " + number + ") in " + state;
                    DUE.is(call, x.hold(kind, number, true), PolicyScript.BAD);
                    DUE.is(call, x.hold(kind, number, false), PolicyScript.BAD);
                }
            }
            DUE.still(state, "bad numbers", x);
        }
    }

    private static void heldIfHave() {
        for (int kind = 1; kind <= 2; kind++) {
            for (int number = 0; number < 8; number++) {
                PolicyScript x = Due.single(kind, number);
                for (int have : new int[] {0, 1, 1, 0, 0, 1, 0, 1}) {
                    x.hold(kind, number, have == 1);
                    DUE.is("holds(" + kind + ", " + number + ")", x.holds(kind, number), have);
                    DUE.is("earliest()", x.earliest(), have == 1 ? 0 : PolicyScript.NONE);
                }
            }
        }
    }

    private static void answer() {
        for (int kind = 1; kind <= 2; kind++) {
            for (int number = 0; number < 8; number++) {
                PolicyScript x = new PolicyScript(8, 1, 1, 1);
                int before = 0;
                for (int have : new int[] {0, 0, 1, 1, 1, 0, 0, 1, 0}) {
                    String call = "hold(" + kind + ", " + number + ", " + (have == 1) + ")";
                    DUE.is(call, x.hold(kind, number, have == 1), have == before ? 0 : 1);
                    before = have;
                }
            }
        }
    }

    private static void noOther() {
        for (int secret = 0; secret < 16; secret++) {
            PolicyScript x = new PolicyScript(8, 1, 1, 1);
            StringBuilder due = new StringBuilder("0000000000000000");
            x.hold(1 + secret / 8, secret % 8, true);
            due.setCharAt(secret, '1');
            DUE.same("held", Due.held(x), due.toString());
            Due.holdAll(x);
            DUE.same("held, all", Due.held(x), "1111111111111111");
            x.hold(1 + secret / 8, secret % 8, false);
            DUE.same("held, all but one", Due.held(x), "1".repeat(secret) + "0" + "1".repeat(15 - secret));
        }
    }

    private static void slotsStay() {
        PolicyScript x = State.FULL_SLOTS.make();
        DUE.is("hold(1, 0, false)", x.hold(PolicyScript.KEY, 0, false), 1);
        DUE.is("hold(2, 2, false)", x.hold(PolicyScript.HASH, 2, false), 1);
        DUE.same("slots", Due.slots(x), "64 255 130 212 0 0 0 0");
        x.place(1, 0, 0);
        x.place(3, 0, 0);
        DUE.is("spend() with nothing held", x.spend(), PolicyScript.ACCEPTED);
        x.hold(PolicyScript.KEY, 1, true);
        x.hold(PolicyScript.KEY, 0, true);
        DUE.same("slots after holding more", Due.slots(x), "64 0 130 0 0 0 0 0");
    }

    private static void policyAndClockStay() {
        for (State state : State.values()) {
            PolicyScript x = state.make();
            String held = " held " + Due.held(x);
            String due = Due.view(x).replace(held, " held 1111111111111111");
            Due.holdAll(x);
            DUE.same("after holding all in " + state, Due.view(x), due);
        }
    }
}
