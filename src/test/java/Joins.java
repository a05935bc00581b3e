/** What joins make of eight hashes, for every set of hashes that can be held. */
final class Joins {
    private Joins() {
    }

    static void holdOnly(PolicyScript x, int mask) {
        for (int i = 0; i < 8; i++) {
            x.hold(PolicyScript.HASH, i, (mask >> i & 1) == 1);
        }
    }

    static void isTrue(Due due, String policy, PolicyScript x, int mask, boolean want) {
        holdOnly(x, mask);
        due.is(policy + " with mask " + mask, x.earliest(), want ? 0 : PolicyScript.NONE);
    }

    static void atLeastK(Due due) {
        for (int n = 2; n <= 8; n++) {
            for (int k = 1; k <= n; k++) {
                PolicyScript x = Due.hashes(k, n);
                for (int mask = 0; mask < 1 << n; mask++) {
                    isTrue(due, k + " of " + n, x, mask, Integer.bitCount(mask) >= k);
                }
            }
        }
    }

    /** k of the last n, and then j of that and the roots before: of all of them each one counts. */
    static void lastRoots(Due due) {
        for (int n = 2; n <= 7; n++) {
            for (int k = 1; k <= n; k++) {
                for (int j = 1; j <= 9 - n; j++) {
                    lastRoots(due, k, n, j);
                }
            }
        }
    }

    private static void lastRoots(Due due, int k, int n, int j) {
        PolicyScript x = new PolicyScript(8, 10, 10, 10);
        for (int i = 0; i < 8; i++) {
            x.lock(PolicyScript.HASH, i);
        }
        x.join(k, n);
        x.join(j, 9 - n);
        x.seal();
        int earlier = (1 << 8 - n) - 1;
        for (int mask = 0; mask < 256; mask++) {
            int joined = Integer.bitCount(mask & ~earlier) >= k ? 1 : 0;
            boolean want = Integer.bitCount(mask & earlier) + joined >= j;
            isTrue(due, j + " of the rest and " + k + " of the last " + n, x, mask, want);
        }
    }
}
