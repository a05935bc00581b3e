import java.util.Random;

/** Long runs of calls, from fixed seeds, answered by the program as by the model. */
public final class ModelTest {
    private static final int RUNS = 4000;
    private static final int CALLS = 80;
    private static final int[] ODD = {Integer.MIN_VALUE, -1, 0, 1, 7, 8, 9, 63, 64, Integer.MAX_VALUE};

    private final Random random;
    private final PolicyScript x;
    private final Model model;
    private final StringBuilder told = new StringBuilder();

    private ModelTest(int seed) {
        random = new Random(seed);
        int locks = random.nextInt(4) == 0 ? odd() : random.nextInt(2, 9);
        int[] weights = new int[3];
        for (int i = 0; i < 3; i++) {
            weights[i] = random.nextInt(8) == 0 ? odd() : random.nextInt(1, 6);
        }
        x = new PolicyScript(locks, weights[0], weights[1], weights[2]);
        model = new Model(locks, weights[0], weights[1], weights[2]);
        told.append("new PolicyScript(" + locks + ", " + weights[0] + ", " + weights[1] + ", "
            + weights[2] + ")\n");
    }

    public static void main(String[] args) {
        for (int seed = 0; seed < RUNS; seed++) {
            ModelTest run = new ModelTest(seed);
            for (int i = 0; i < CALLS; i++) {
                if (!run.step()) {
                    System.out.println("seed " + seed + ":\n" + run.told);
                    System.exit(1);
                }
            }
        }
        System.out.println("all answers are as due");
    }

    private int odd() {
        return ODD[random.nextInt(ODD.length)];
    }

    /** Mostly few different numbers, so that locks, slots and secrets meet. */
    private int number(int kind) {
        int roll = random.nextInt(20);
        if (roll == 0) return odd();
        if (roll == 1) return random.nextInt(66) - 1;
        return random.nextInt(kind == 3 ? 6 : 3);
    }

    private int kind() {
        return random.nextInt(20) == 0 ? odd() : random.nextInt(1, 4);
    }

    private boolean step() {
        boolean sealed = x.status() >= 1024;
        int roll = random.nextInt(100);
        if (roll < 2) return reopen();
        if (roll < 14) return hold();
        if (roll < 22) return setTime();
        if (roll < 24) return lock();
        if (roll < 26) return join();
        if (roll < 28) return due("seal()", x.seal(), model.seal());
        if (sealed ? roll < 50 : roll < 30) return place();
        if (sealed || roll < 36) return ask();
        if (roll < 75) return lock();
        return roll < 92 ? join() : due("seal()", x.seal(), model.seal());
    }

    private boolean reopen() {
        x.reopen();
        model.reopen();
        return due("reopen()", 0, 0);
    }

    private boolean hold() {
        int kind = kind();
        int number = number(kind);
        boolean have = random.nextInt(3) > 0;
        String call = "hold(" + kind + ", " + number + ", " + have + ")";
        return due(call, x.hold(kind, number, have), model.hold(kind, number, have));
    }

    private boolean setTime() {
        int time = number(3);
        return due("setTime(" + time + ")", x.setTime(time), model.setTime(time));
    }

    private boolean lock() {
        int kind = kind();
        int number = number(kind);
        return due("lock(" + kind + ", " + number + ")", x.lock(kind, number), model.lock(kind, number));
    }

    /** Mostly few roots, which even a short draft has, and now and then any number of them. */
    private boolean join() {
        int n = random.nextInt(10) == 0 ? odd() : random.nextInt(2, random.nextInt(3) == 0 ? 9 : 5);
        int k = random.nextInt(10) == 0 ? odd() : random.nextInt(1, Math.max(2, Math.min(8, n) + 1));
        return due("join(" + k + ", " + n + ")", x.join(k, n), model.join(k, n));
    }

    private boolean place() {
        int lock = random.nextInt(10) == 0 ? odd() : random.nextInt(8);
        int kind = random.nextInt(5) == 0 ? 0 : kind();
        int number = number(kind);
        if (random.nextInt(2) == 0 && x.token(lock) > 0 && x.token(lock) < 256) {
            kind = x.token(lock) / 64;
            number = x.token(lock) % 64;
        }
        String call = "place(" + lock + ", " + kind + ", " + number + ")";
        return due(call, x.place(lock, kind, number), model.place(lock, kind, number));
    }

    private boolean ask() {
        return switch (random.nextInt(5)) {
            case 0 -> due("satisfy()", x.satisfy(), model.satisfy());
            case 1 -> due("malleate()", x.malleate(), model.malleate());
            case 2 -> due("variants()", x.variants(), model.variants());
            case 3 -> due("spend()", x.spend(), model.spend());
            default -> due("earliest()", x.earliest(), model.earliest());
        };
    }

    private boolean due(String call, int got, int want) {
        told.append(call + " answered " + got + ", due is " + want + "\n");
        String seen = Due.view(x);
        String wanted = model.view();
        if (!seen.equals(wanted)) {
            told.append("seen is " + seen + "\n due is " + wanted + "\n");
        }
        return got == want && seen.equals(wanted);
    }
}
