/** Promise 8: setting the clock. */
public final class Promise08Test {
    private static final Due DUE = new Due();

    public static void main(String[] args) {
        DUE.sentence("setTime(time) works in any state, draft or sealed, and can move the clock forwards"
            + " or backwards", Promise08Test::anyState);
        DUE.sentence("1. time is not in 0..63: BAD.", Promise08Test::badTime);
        DUE.sentence("2. Otherwise the clock is time;", Promise08Test::clockIsTime);
        DUE.sentence("the answer is the clock before, also when both are the same.",
            Promise08Test::answer);
        DUE.sentence("Slots stay, even if they hold AFTER codes whose numbers are no longer open.",
            Promise08Test::slotsStay);
        DUE.sentence("The policy and what is held do not change.", Promise08Test::allElseStays);
        DUE.end();
    }

    private static void anyState() {
        for (State state : State.values()) {
            PolicyScript x = state.make();
            int start = x.status() % 64;
            DUE.is("setTime(63) in " + state, x.setTime(63), start);
            DUE.is("setTime(0) in " + state, x.setTime(0), 63);
            DUE.is("setTime(1) in " + state, x.setTime(1), 0);
            DUE.is("setTime(start) in " + state, x.setTime(start), 1);
            DUE.still(state, "setTime and back", x);
        }
    }

    private static void badTime() {
        for (State state : State.values()) {
            PolicyScript x = state.make();
            for (int time : Due.intsOutside(0, 63)) {
                DUE.is("setTime(" + time + ") in " + state, x.setTime(time), PolicyScript.BAD);
            }
            DUE.still(state, "setTime of bad times", x);
        }
    }

    private static void clockIsTime() {
        PolicyScript x = Due.single(PolicyScript.AFTER, 31);
        for (int i = 0; i <= 126; i++) {
            int time = Math.abs(63 - i);
            x.setTime(time);
            DUE.is("status() at " + time, x.status(), 1024 + 64 + time);
            DUE.is("satisfy() at " + time, x.satisfy(), time >= 31 ? 1 : PolicyScript.NONE);
        }
    }

    private static void answer() {
        PolicyScript x = new PolicyScript(8, 1, 1, 1);
        DUE.is("setTime(0) at the start", x.setTime(0), 0);
        for (int from = 0; from <= 63; from++) {
            for (int to = 0; to <= 63; to++) {
                x.setTime(from);
                DUE.is("setTime(" + to + ") at " + from, x.setTime(to), from);
            }
        }
    }

    private static void slotsStay() {
        PolicyScript x = State.FULL_SLOTS.make();
        for (int time : new int[] {20, 19, 0, 63, 0, 62}) {
            x.setTime(time);
            DUE.same("slots at " + time, Due.slots(x), "64 255 130 212 0 0 0 0");
        }
        PolicyScript y = State.WITNESS.make();
        y.setTime(19);
        DUE.is("spend() too early", y.spend(), PolicyScript.WRONG);
        y.setTime(20);
        DUE.is("spend() in time", y.spend(), PolicyScript.ACCEPTED);
    }

    private static void allElseStays() {
        for (State state : State.values()) {
            for (int time : new int[] {0, 1, 19, 20, 62, 63}) {
                PolicyScript x = state.make();
                int status = x.status();
                int later = status - status % 64 + time;
                String due = Due.view(x).replace("status " + status + " ", "status " + later + " ");
                x.setTime(time);
                DUE.same("after setTime(" + time + ") in " + state, Due.view(x), due);
            }
        }
    }
}
