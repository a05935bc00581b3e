/** Promise 14: the earliest time. */
public final class Promise14Test {
    private static final Due DUE = new Due();

    public static void main(String[] args) {
        draft();
        everyTime();
        secretsAndTimes();
        clockAndSlotsDoNotMatter();
        DUE.end();
    }

    private static void draft() {
        PolicyScript x = new PolicyScript(8, 1, 1, 1);
        x.lock(3, 0);
        DUE.refused("earliest() of a draft", x, Due.view(x), x.earliest(), PolicyScript.DRAFT);
    }

    private static void everyTime() {
        for (int time = 0; time <= 63; time++) {
            PolicyScript x = new PolicyScript(8, 1, 1, 1);
            x.lock(3, time);
            x.lock(3, 63 - time);
            x.join(2, 2);
            x.seal();
            DUE.is("earliest() of both", x.earliest(), time > 31 ? time : 63 - time);
            x.reopen();
            x.lock(3, time);
            x.seal();
            DUE.is("earliest() of " + time, x.earliest(), time);
        }
    }

    private static void secretsAndTimes() {
        PolicyScript x = Due.keyAndOneOfThree();
        DUE.is("earliest() with nothing", x.earliest(), PolicyScript.NONE);
        x.hold(1, 1, true);
        x.hold(2, 2, true);
        DUE.is("earliest() without key 0", x.earliest(), PolicyScript.NONE);
        x.hold(1, 0, true);
        DUE.is("earliest() with all", x.earliest(), 0);
        x.hold(1, 1, false);
        DUE.is("earliest() with the hash", x.earliest(), 0);
        x.hold(2, 2, false);
        DUE.is("earliest() with key 0", x.earliest(), 20);
    }

    private static void clockAndSlotsDoNotMatter() {
        PolicyScript x = Due.keyAndOneOfThree();
        x.hold(1, 0, true);
        x.hold(2, 2, true);
        x.satisfy();
        x.hold(2, 2, false);
        for (int time = 0; time <= 63; time += 21) {
            x.setTime(time);
            String before = Due.view(x);
            DUE.is("earliest() at " + time, x.earliest(), 20);
            DUE.same("after earliest()", Due.view(x), before);
        }
        x.hold(1, 0, false);
        DUE.is("earliest() with slots alone", x.earliest(), PolicyScript.NONE);
    }
}
