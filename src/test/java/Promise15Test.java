/** Promise 15: reading a slot. */
public final class Promise15Test {
    private static final Due DUE = new Due();

    public static void main(String[] args) {
        PolicyScript x = new PolicyScript(8, 1, 1, 1);
        nothingAt(x, 0, 7);
        x.lock(3, 0);
        x.lock(3, 1);
        nothingAt(x, 0, 7);
        x.join(1, 2);
        x.seal();
        nothingAt(x, 0, 7);
        x.place(0, 3, 63);
        x.place(1, 3, 1);
        String before = Due.view(x);
        DUE.is("slot(0)", x.slot(0), 255);
        DUE.is("slot(1)", x.slot(1), 193);
        nothingAt(x, 2, 7);
        DUE.same("after reading", Due.view(x), before);
        x.place(0, 0, 0);
        DUE.is("slot(0) emptied", x.slot(0), 0);
        DUE.is("slot(1)", x.slot(1), 193);
        x.reopen();
        nothingAt(x, 0, 7);
        x.lock(1, 0);
        nothingAt(x, 0, 7);
        x.seal();
        nothingAt(x, 0, 7);
        allEight();
        DUE.end();
    }

    private static void nothingAt(PolicyScript x, int from, int to) {
        for (int lock = from; lock <= to; lock++) {
            DUE.is("slot(" + lock + ")", x.slot(lock), 0);
        }
        for (int lock : new int[] {-1, 8, 9, 64, Integer.MIN_VALUE, Integer.MAX_VALUE}) {
            DUE.is("slot(" + lock + ")", x.slot(lock), 0);
        }
    }

    private static void allEight() {
        PolicyScript x = Due.hashes(8, 8);
        x.malleate();
        DUE.same("slots", Due.slots(x), "128 129 130 131 132 133 134 135");
        DUE.is("slot(8)", x.slot(8), 0);
    }
}
