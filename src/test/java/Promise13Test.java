/** Promise 13: judging the witness. */
public final class Promise13Test {
    private static final Due DUE = new Due();

    public static void main(String[] args) {
        draft();
        everyAnswer();
        wrongComesFirst();
        oneTooMany();
        clockJudges();
        DUE.end();
    }

    private static void draft() {
        PolicyScript x = new PolicyScript(8, 1, 1, 1);
        x.lock(2, 0);
        DUE.refused("spend() of a draft", x, Due.view(x), x.spend(), PolicyScript.DRAFT);
    }

    private static void judged(String when, PolicyScript x, int due) {
        String before = Due.view(x);
        DUE.is("spend() " + when, x.spend(), due);
        DUE.is("spend() once more " + when, x.spend(), due);
        DUE.same("after spend() " + when, Due.view(x), before);
    }

    private static void everyAnswer() {
        PolicyScript x = Due.keyAndOneOfThree();
        x.hold(1, 0, true);
        x.hold(1, 1, true);
        x.hold(2, 2, true);
        judged("with empty slots", x, PolicyScript.SHORT);
        x.place(0, 1, 0);
        judged("with key 0", x, PolicyScript.SHORT);
        x.place(1, 1, 1);
        judged("with both keys", x, PolicyScript.ACCEPTED);
        x.place(2, 2, 2);
        judged("with both keys and the hash", x, PolicyScript.LOOSE);
        x.place(1, 1, 0);
        judged("with key 0 in slot 1", x, PolicyScript.WRONG);
        x.place(1, 0, 0);
        judged("with key 0 and the hash", x, PolicyScript.ACCEPTED);
        x.hold(1, 0, false);
        x.hold(2, 2, false);
        judged("with nothing held", x, PolicyScript.ACCEPTED);
        x.place(0, 0, 0);
        judged("without key 0", x, PolicyScript.SHORT);
    }

    /** A lock that does not FIT decides, be F short or loose. */
    private static void wrongComesFirst() {
        PolicyScript x = Due.hashes(2, 3);
        x.hold(2, 0, true);
        x.hold(2, 1, true);
        x.hold(2, 2, true);
        x.place(2, 2, 0);
        judged("with one wrong slot", x, PolicyScript.WRONG);
        x.place(0, 2, 0);
        x.place(1, 2, 1);
        judged("with one wrong slot of three", x, PolicyScript.WRONG);
        x.place(2, 2, 2);
        judged("with three", x, PolicyScript.LOOSE);
        x.place(0, 2, 1);
        judged("with slot 0 wrong", x, PolicyScript.WRONG);
    }

    /** Two of three, one of them being (after 1 and after 60): after 1 alone is of no use. */
    private static void oneTooMany() {
        for (int spare = 0; spare < 3; spare++) {
            PolicyScript x = new PolicyScript(8, 1, 1, 1);
            x.setTime(9);
            for (int i = 0; i < 3; i++) {
                x.lock(3, i == spare ? 1 : 2);
                if (i == spare) {
                    x.lock(3, 60);
                    x.join(2, 2);
                }
            }
            x.join(2, 3);
            x.seal();
            for (int i = 0; i < 4; i++) {
                int number = x.token(i > spare + 1 ? i + 1 : i) % 64;
                if (number != 60) {
                    x.place(i, 3, number);
                }
            }
            judged("with the spare lock " + spare, x, PolicyScript.LOOSE);
            x.place(spare, 0, 0);
            judged("without the spare lock " + spare, x, PolicyScript.ACCEPTED);
        }
    }

    private static void clockJudges() {
        PolicyScript x = new PolicyScript(8, 1, 1, 1);
        x.lock(3, 0);
        x.lock(3, 63);
        x.join(1, 2);
        x.seal();
        x.place(1, 3, 63);
        judged("at 0", x, PolicyScript.WRONG);
        x.setTime(62);
        judged("at 62", x, PolicyScript.WRONG);
        x.setTime(63);
        judged("at 63", x, PolicyScript.ACCEPTED);
        x.place(0, 3, 0);
        judged("with both", x, PolicyScript.LOOSE);
    }
}
