/** Promise 12: setting a slot by hand. */
public final class Promise12Test {
    private static final Due DUE = new Due();

    public static void main(String[] args) {
        draft();
        badLocks();
        emptying();
        badPairs();
        notHeld();
        placing();
        DUE.end();
    }

    private static void draft() {
        PolicyScript x = new PolicyScript(8, 1, 1, 1);
        x.hold(1, 0, true);
        x.lock(1, 0);
        String before = Due.view(x);
        DUE.refused("place in a draft", x, before, x.place(0, 1, 0), PolicyScript.DRAFT);
        DUE.refused("emptying in a draft", x, before, x.place(0, 0, 0), PolicyScript.DRAFT);
        DUE.refused("no lock in a draft", x, before, x.place(-1, 9, 9), PolicyScript.DRAFT);
    }

    private static void badLocks() {
        PolicyScript x = Due.keyAndOneOfThree();
        x.hold(1, 0, true);
        String before = Due.view(x);
        for (int lock : new int[] {-1, 4, 7, 8, Integer.MIN_VALUE, Integer.MAX_VALUE}) {
            String name = "place(" + lock + ", ..)";
            DUE.refused(name, x, before, x.place(lock, 1, 0), PolicyScript.BAD);
            DUE.refused(name, x, before, x.place(lock, 0, 0), PolicyScript.BAD);
            DUE.refused(name, x, before, x.place(lock, 1, 5), PolicyScript.BAD);
        }
    }

    private static void emptying() {
        PolicyScript x = Due.keyAndOneOfThree();
        x.hold(1, 0, true);
        x.setTime(20);
        x.satisfy();
        for (int number : new int[] {0, -1, 99, Integer.MIN_VALUE, Integer.MAX_VALUE}) {
            x.place(0, 1, 0);
            DUE.is("place(0, 0, " + number + ")", x.place(0, 0, number), 0);
            DUE.same("slots", Due.slots(x), "0 0 0 212 0 0 0 0");
            DUE.is("place of an empty slot", x.place(0, 0, number), 0);
            DUE.same("slots", Due.slots(x), "0 0 0 212 0 0 0 0");
        }
    }

    private static void badPairs() {
        PolicyScript x = Due.keyAndOneOfThree();
        x.setTime(63);
        x.place(0, 3, 0);
        String before = Due.view(x);
        int[][] pairs = {{4, 0}, {-1, 0}, {1, -1}, {1, 8}, {2, -1}, {2, 8}, {3, -1}, {3, 64},
            {Integer.MIN_VALUE, 0}, {Integer.MAX_VALUE, 0}, {3, Integer.MIN_VALUE},
            {3, Integer.MAX_VALUE}, {1, Integer.MIN_VALUE}, {2, Integer.MAX_VALUE}};
        for (int[] pair : pairs) {
            int got = x.place(0, pair[0], pair[1]);
            DUE.refused("place(0, " + pair[0] + ", " + pair[1] + ")", x, before, got, PolicyScript.BAD);
        }
    }

    private static void notHeld() {
        PolicyScript x = Due.keyAndOneOfThree();
        x.hold(1, 2, true);
        x.hold(2, 0, true);
        x.place(0, 2, 0);
        String before = Due.view(x);
        DUE.refused("place(0, 1, 0)", x, before, x.place(0, 1, 0), PolicyScript.NONE);
        DUE.refused("place(2, 2, 2)", x, before, x.place(2, 2, 2), PolicyScript.NONE);
    }

    private static void placing() {
        PolicyScript x = Due.keyAndOneOfThree();
        x.hold(1, 0, true);
        x.hold(2, 2, true);
        x.hold(2, 0, true);
        DUE.is("place(0, 1, 0)", x.place(0, 1, 0), 1);
        DUE.is("place(1, 1, 0)", x.place(1, 1, 0), 0);
        DUE.is("place(2, 2, 2)", x.place(2, 2, 2), 1);
        DUE.same("slots", Due.slots(x), "64 64 130 0 0 0 0 0");
        DUE.is("place(2, 2, 0)", x.place(2, 2, 0), 0);
        DUE.is("place(0, 2, 0)", x.place(0, 2, 0), 0);
        DUE.is("place(3, 3, 20) at 0", x.place(3, 3, 20), 0);
        DUE.same("slots", Due.slots(x), "128 64 128 212 0 0 0 0");
        x.setTime(19);
        DUE.is("place(3, 3, 20) at 19", x.place(3, 3, 20), 0);
        x.setTime(20);
        DUE.is("place(3, 3, 20) at 20", x.place(3, 3, 20), 1);
        DUE.is("place(3, 3, 19) at 20", x.place(3, 3, 19), 0);
        DUE.is("place(3, 3, 63) at 20", x.place(3, 3, 63), 0);
        DUE.same("slots", Due.slots(x), "128 64 128 255 0 0 0 0");
        DUE.is("status()", x.status(), 1024 + 64 + 20);
        DUE.same("held", Due.held(x), "1000000010100000");
    }
}
