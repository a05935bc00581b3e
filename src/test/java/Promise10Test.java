/** Promise 10: the onlooker's rewriting. */
public final class Promise10Test {
    private static final Due DUE = new Due();

    public static void main(String[] args) {
        draft();
        backAndForth();
        copiedSignature();
        contentsPlayNoPart();
        minimalAlone();
        openTimes();
        leastWeight();
        eightKeys();
        DUE.end();
    }

    private static void draft() {
        PolicyScript x = new PolicyScript(8, 1, 1, 1);
        x.lock(2, 0);
        DUE.refused("malleate() of a draft", x, Due.view(x), x.malleate(), PolicyScript.DRAFT);
    }

    /** F is left out, so two best sets take turns. */
    private static void backAndForth() {
        PolicyScript x = Due.hashes(2, 3);
        DUE.is("malleate() from empty slots", x.malleate(), 20);
        DUE.same("slots", Due.slots(x), "128 129 0 0 0 0 0 0");
        DUE.is("malleate() of the best", x.malleate(), 20);
        DUE.same("slots", Due.slots(x), "128 0 130 0 0 0 0 0");
        DUE.is("malleate() of the second", x.malleate(), 20);
        DUE.same("slots", Due.slots(x), "128 129 0 0 0 0 0 0");
        DUE.same("held", Due.held(x), "0000000000000000");
        DUE.is("status()", x.status(), 1088);
    }

    /** A signature is the onlooker's once any slot shows it, held or not. */
    private static void copiedSignature() {
        PolicyScript x = Due.keyAndOneOfThree();
        x.hold(1, 0, true);
        x.hold(1, 1, true);
        DUE.refused("malleate() without a signature", x, Due.view(x), x.malleate(), PolicyScript.NONE);
        x.place(3, 1, 0);
        x.hold(1, 0, false);
        DUE.is("malleate() with key 0 in slot 3", x.malleate(), 100);
        DUE.same("slots", Due.slots(x), "64 0 130 0 0 0 0 0");
        DUE.refused("malleate() with no other set", x, Due.view(x), x.malleate(), PolicyScript.NONE);
        x.place(2, 1, 1);
        DUE.is("malleate() with key 1 in slot 2, {0, 2} being F", x.malleate(), 140);
        DUE.same("slots", Due.slots(x), "64 65 0 0 0 0 0 0");
        DUE.is("malleate() back to the hash", x.malleate(), 100);
        DUE.same("slots", Due.slots(x), "64 0 130 0 0 0 0 0");
    }

    private static void contentsPlayNoPart() {
        PolicyScript x = new PolicyScript(8, 1, 1, 1);
        x.hold(2, 7, true);
        x.lock(2, 0);
        x.seal();
        x.place(0, 2, 7);
        DUE.refused("malleate() of a wrong content", x, Due.view(x), x.malleate(), PolicyScript.NONE);
        x.place(0, 0, 0);
        DUE.is("malleate() of an empty slot", x.malleate(), 1);
        DUE.same("slots", Due.slots(x), "128 0 0 0 0 0 0 0");
    }

    /** A set that is TRUE but not MINIMAL is no rewriting, not even where nothing else is left. */
    private static void minimalAlone() {
        PolicyScript x = Due.hashes(1, 2);
        x.hold(2, 0, true);
        x.hold(2, 1, true);
        x.place(0, 2, 0);
        x.place(1, 2, 1);
        DUE.is("malleate() of both", x.malleate(), 10);
        DUE.same("slots", Due.slots(x), "128 0 0 0 0 0 0 0");
        DUE.is("malleate() of one", x.malleate(), 10);
        DUE.same("slots", Due.slots(x), "0 129 0 0 0 0 0 0");

        PolicyScript y = new PolicyScript(8, 1, 1, 1);
        y.lock(2, 0);
        y.lock(2, 1);
        y.lock(1, 0);
        y.join(2, 2);
        y.join(1, 2);
        y.seal();
        DUE.is("malleate() of hash 0 or (hash 1 and key 0)", y.malleate(), 1);
        DUE.same("slots", Due.slots(y), "128 0 0 0 0 0 0 0");
        DUE.refused("malleate() again", y, Due.view(y), y.malleate(), PolicyScript.NONE);
    }

    private static void openTimes() {
        PolicyScript x = new PolicyScript(8, 1, 1, 1);
        x.lock(3, 5);
        x.seal();
        x.setTime(4);
        DUE.refused("malleate() at 4", x, Due.view(x), x.malleate(), PolicyScript.NONE);
        x.place(0, 3, 5);
        DUE.refused("malleate() with the code", x, Due.view(x), x.malleate(), PolicyScript.NONE);
        x.place(0, 0, 0);
        x.setTime(5);
        DUE.is("malleate() at 5", x.malleate(), 1);
        DUE.same("slots", Due.slots(x), "197 0 0 0 0 0 0 0");
    }

    private static void leastWeight() {
        PolicyScript x = new PolicyScript(8, 1, 30, 5);
        x.lock(2, 0);
        x.lock(3, 0);
        x.lock(3, 1);
        x.join(2, 2);
        x.join(1, 2);
        x.seal();
        DUE.is("malleate() at 0", x.malleate(), 30);
        x.setTime(1);
        DUE.is("malleate() at 1", x.malleate(), 10);
        DUE.same("slots", Due.slots(x), "0 192 193 0 0 0 0 0");
        DUE.is("malleate() of the best", x.malleate(), 30);
    }

    private static void eightKeys() {
        PolicyScript x = new PolicyScript(8, 3, 1, 1);
        for (int i = 0; i < 8; i++) {
            x.lock(1, i);
            x.hold(1, i, true);
        }
        x.join(1, 8);
        x.seal();
        DUE.refused("malleate() of eight keys", x, Due.view(x), x.malleate(), PolicyScript.NONE);
        x.place(0, 1, 7);
        DUE.is("malleate() with key 7 in slot 0", x.malleate(), 3);
        DUE.same("slots", Due.slots(x), "0 0 0 0 0 0 0 71");
        x.place(7, 1, 0);
        DUE.is("malleate() with key 0 in slot 7", x.malleate(), 3);
        DUE.same("slots", Due.slots(x), "64 0 0 0 0 0 0 0");
    }
}
