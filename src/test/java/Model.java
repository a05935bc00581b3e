import java.util.ArrayDeque;
import java.util.ArrayList;
import java.util.Arrays;
import java.util.HashSet;
import java.util.List;
import java.util.Set;
import java.util.TreeSet;

/** The document once more, in another way: trees for policies, sets of numbers for sets of locks. */
final class Model {
    private record Node(int lock, int k, List<Node> parts) {
        boolean isTrue(Set<Integer> set) {
            if (parts.isEmpty()) {
                return set.contains(lock);
            }
            return parts.stream().filter(part -> part.isTrue(set)).count() >= k;
        }
    }

    private final int most;
    private final int[] weights;
    private final ArrayDeque<Node> roots = new ArrayDeque<>();
    private final List<Integer> tokens = new ArrayList<>();
    private final List<Integer> locks = new ArrayList<>();
    private final Set<Integer> held = new HashSet<>();
    private int[] slots = new int[0];
    private boolean sealed;
    private int clock;

    Model(int locks, int keyWeight, int hashWeight, int afterWeight) {
        most = Math.max(2, Math.min(8, locks));
        weights = new int[] {0, keyWeight, hashWeight, afterWeight};
        for (int i = 1; i <= 3; i++) {
            weights[i] = Math.max(1, Math.min(99, weights[i]));
        }
    }

    private static boolean fit(int kind, int number) {
        return kind >= 1 && kind <= 3 && number >= 0 && number <= (kind == 3 ? 63 : 7);
    }

    int lock(int kind, int number) {
        if (sealed) return -2;
        if (!fit(kind, number)) return -3;
        if (locks.size() == most) return -4;
        roots.addLast(new Node(locks.size(), 0, List.of()));
        locks.add(kind * 64 + number);
        tokens.add(kind * 64 + number);
        return locks.size() - 1;
    }

    int join(int k, int n) {
        if (sealed) return -2;
        if (n < 2 || n > 8 || k < 1 || k > n) return -3;
        if (roots.size() < n) return -5;
        List<Node> parts = new ArrayList<>();
        for (int i = 0; i < n; i++) {
            parts.add(roots.removeLast());
        }
        roots.addLast(new Node(-1, k, parts));
        tokens.add(256 + (k - 1) * 8 + n - 1);
        return roots.size();
    }

    int seal() {
        if (sealed) return -2;
        if (roots.size() != 1) return -5;
        sealed = true;
        slots = new int[locks.size()];
        Set<Integer> keyless = new TreeSet<>();
        for (int i = 0; i < locks.size(); i++) {
            if (locks.get(i) >= 128) keyless.add(i);
        }
        return isTrue(keyless) ? 0 : 1;
    }

    void reopen() {
        roots.clear();
        tokens.clear();
        locks.clear();
        slots = new int[0];
        sealed = false;
    }

    int hold(int kind, int number, boolean have) {
        if (kind > 2 || !fit(kind, number)) return -3;
        boolean change = have ? held.add(kind * 64 + number) : held.remove(kind * 64 + number);
        return change ? 1 : 0;
    }

    int setTime(int time) {
        if (time < 0 || time > 63) return -3;
        int before = clock;
        clock = time;
        return before;
    }

    int satisfy() {
        if (!sealed) return -6;
        return take(best(owners(clock), false, null));
    }

    int malleate() {
        if (!sealed) return -6;
        return take(best(onlookers(), true, filled()));
    }

    int variants() {
        if (!sealed) return -6;
        return (int) subsets(onlookers()).stream().filter(this::isMinimal).count();
    }

    int place(int lock, int kind, int number) {
        if (!sealed) return -6;
        if (lock < 0 || lock >= locks.size()) return -3;
        if (kind == 0) {
            slots[lock] = 0;
            return 0;
        }
        if (!fit(kind, number)) return -3;
        if (kind != 3 && !held.contains(kind * 64 + number)) return -1;
        slots[lock] = kind * 64 + number;
        return fits(lock) ? 1 : 0;
    }

    int spend() {
        if (!sealed) return -6;
        Set<Integer> filled = filled();
        if (!filled.stream().allMatch(this::fits)) return 2;
        if (!isTrue(filled)) return 3;
        return isMinimal(filled) ? 1 : 4;
    }

    int earliest() {
        if (!sealed) return -6;
        for (int time = 0; time <= 63; time++) {
            if (isTrue(owners(time))) return time;
        }
        return -1;
    }

    /** The same text as Due.view gives of the program. */
    String view() {
        StringBuilder seen = new StringBuilder("status ");
        seen.append(clock + 64 * roots.size() + (sealed ? 1024 : 0)).append(" tokens");
        for (int i = 0; i < 16; i++) {
            seen.append(' ').append(i < tokens.size() ? tokens.get(i) : 0);
        }
        seen.append(" slots");
        for (int i = 0; i < 8; i++) {
            seen.append(' ').append(i < slots.length ? slots[i] : 0);
        }
        seen.append(" held ");
        for (int code = 64; code < 192; code++) {
            if (code % 64 < 8) seen.append(held.contains(code) ? 1 : 0);
        }
        return seen.toString();
    }

    private boolean isTrue(Set<Integer> set) {
        return roots.getLast().isTrue(set);
    }

    private boolean isMinimal(Set<Integer> set) {
        if (!isTrue(set)) return false;
        for (int lock : set) {
            Set<Integer> less = new TreeSet<>(set);
            less.remove(lock);
            if (isTrue(less)) return false;
        }
        return true;
    }

    private boolean fits(int lock) {
        int code = locks.get(lock);
        return slots[lock] == code && (code < 192 || code - 192 <= clock);
    }

    private Set<Integer> filled() {
        Set<Integer> set = new TreeSet<>();
        for (int i = 0; i < slots.length; i++) {
            if (slots[i] != 0) set.add(i);
        }
        return set;
    }

    private Set<Integer> owners(int time) {
        Set<Integer> set = new TreeSet<>();
        for (int i = 0; i < locks.size(); i++) {
            int code = locks.get(i);
            if (code >= 192 ? code - 192 <= time : held.contains(code)) set.add(i);
        }
        return set;
    }

    private Set<Integer> onlookers() {
        Set<Integer> set = new TreeSet<>();
        for (int i = 0; i < locks.size(); i++) {
            int code = locks.get(i);
            boolean shown = Arrays.stream(slots).anyMatch(content -> content == code);
            if (code < 128 ? shown : code < 192 || code - 192 <= clock) set.add(i);
        }
        return set;
    }

    private static List<Set<Integer>> subsets(Set<Integer> of) {
        List<Set<Integer>> all = new ArrayList<>();
        all.add(new TreeSet<>());
        for (int lock : of) {
            for (int i = all.size() - 1; i >= 0; i--) {
                Set<Integer> more = new TreeSet<>(all.get(i));
                more.add(lock);
                all.add(more);
            }
        }
        return all;
    }

    private int weight(Set<Integer> set) {
        return set.stream().mapToInt(lock -> weights[locks.get(lock) / 64]).sum();
    }

    private static int mask(Set<Integer> set) {
        return set.stream().mapToInt(lock -> 1 << lock).sum();
    }

    private Set<Integer> best(Set<Integer> of, boolean minimal, Set<Integer> leftOut) {
        Set<Integer> best = null;
        for (Set<Integer> set : subsets(of)) {
            if (set.equals(leftOut) || !(minimal ? isMinimal(set) : isTrue(set))) continue;
            int byWeight = best == null ? -1 : Integer.compare(weight(set), weight(best));
            if (byWeight < 0 || byWeight == 0 && mask(set) < mask(best)) best = set;
        }
        return best;
    }

    private int take(Set<Integer> set) {
        if (set == null) return -1;
        for (int i = 0; i < slots.length; i++) {
            slots[i] = set.contains(i) ? locks.get(i) : 0;
        }
        return weight(set);
    }
}
