/** Promise 7: asking for a secret. */
public final class Promise07Test {
    private static final Due DUE = new Due();

    public static void main(String[] args) {
        asks(new PolicyScript(8, 1, 1, 1));
        asks(Due.keyAndOneOfThree());
        DUE.end();
    }

    private static void asks(PolicyScript x) {
        x.hold(1, 0, true);
        x.hold(1, 7, true);
        x.hold(2, 3, true);
        String before = Due.view(x);
        int[][] due = {{1, 0, 1, 0, 0, 0, 0, 0, 0, 1}, {2, 0, 0, 0, 0, 1, 0, 0, 0, 0}};
        for (int[] row : due) {
            DUE.is("holds(" + row[0] + ", -1)", x.holds(row[0], -1), PolicyScript.BAD);
            for (int number = 0; number < 8; number++) {
                DUE.is("holds(" + row[0] + ", " + number + ")", x.holds(row[0], number), row[number + 2]);
            }
            DUE.is("holds(" + row[0] + ", 8)", x.holds(row[0], 8), PolicyScript.BAD);
            DUE.is("holds of a far number", x.holds(row[0], Integer.MIN_VALUE), PolicyScript.BAD);
            DUE.is("holds of a far number", x.holds(row[0], Integer.MAX_VALUE), PolicyScript.BAD);
        }
        for (int kind : new int[] {0, 3, 4, -1, Integer.MIN_VALUE, Integer.MAX_VALUE}) {
            DUE.is("holds(" + kind + ", 0)", x.holds(kind, 0), PolicyScript.BAD);
            DUE.is("holds(" + kind + ", 3)", x.holds(kind, 3), PolicyScript.BAD);
        }
        DUE.same("after asking", Due.view(x), before);
    }
}
