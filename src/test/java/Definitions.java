import java.util.ArrayList;
import java.util.List;

/**
 * The terms of the document, word by word and argument by argument, without the shortcuts that the program takes:
 * what the program answers is held against this.
 */
final class Definitions {
    private final int size;
    private final boolean[][] attack;

    Definitions(int size) {
        this.size = size;
        this.attack = new boolean[size][size];
    }

    void set(int a, int b, boolean there) {
        attack[a][b] = there;
    }

    boolean isArgument(int a) {
        return a >= 0 && a < size;
    }

    boolean isThere(int a, int b) {
        return isArgument(a) && isArgument(b) && attack[a][b];
    }

    int clear() {
        int taken = 0;
        for (boolean[] row : attack) {
            for (int b = 0; b < size; b++) {
                taken += row[b] ? 1 : 0;
                row[b] = false;
            }
        }
        return taken;
    }

    int all() {
        int set = 0;
        for (int a = 0; a < size; a++) {
            set += 1 << a;
        }
        return set;
    }

    /** The set with every argument it defends that is within all other such sets. */
    int grounded() {
        List<Integer> closed = new ArrayList<>();
        for (int set = 0; set <= all(); set++) {
            if (hasAllItDefends(set)) {
                closed.add(set);
            }
        }
        for (int least : closed) {
            boolean within = true;
            for (int other : closed) {
                within &= isWithin(least, other);
            }
            if (within) {
                return least;
            }
        }
        throw new IllegalStateException("the document says that there is one");
    }

    List<Integer> extensions(int kind) {
        List<Integer> admissible = new ArrayList<>();
        for (int set = 0; set <= all(); set++) {
            if (isAdmissible(set)) {
                admissible.add(set);
            }
        }
        List<Integer> found = new ArrayList<>();
        for (int set = 0; set <= all(); set++) {
            if (isExtension(kind, set, admissible)) {
                found.add(set);
            }
        }
        return found;
    }

    int union(List<Integer> sets) {
        int union = 0;
        for (int set : sets) {
            union |= set;
        }
        return union;
    }

    /** All arguments if there is no set. */
    int common(List<Integer> sets) {
        int common = all();
        for (int set : sets) {
            common &= set;
        }
        return common;
    }

    private boolean isExtension(int kind, int set, List<Integer> admissible) {
        switch (kind) {
            case 0:
                return admissible.contains(set) && hasAllItDefends(set);
            case 1:
                return admissible.contains(set)
                        && admissible.stream().noneMatch(other -> other != set && isWithin(set, other));
            case 2:
                return isConflictFree(set) && attacksAllOutside(set);
            case 3:
                return admissible.contains(set) && admissible.stream().noneMatch(
                        other -> range(other) != range(set) && isWithin(range(set), range(other)));
            default:
                throw new IllegalArgumentException("kind " + kind);
        }
    }

    private static boolean isIn(int set, int a) {
        return (set & (1 << a)) != 0;
    }

    private boolean isWithin(int inner, int outer) {
        for (int a = 0; a < size; a++) {
            if (isIn(inner, a) && !isIn(outer, a)) {
                return false;
            }
        }
        return true;
    }

    private boolean setAttacks(int set, int b) {
        for (int a = 0; a < size; a++) {
            if (isIn(set, a) && attack[a][b]) {
                return true;
            }
        }
        return false;
    }

    private boolean isConflictFree(int set) {
        for (int b = 0; b < size; b++) {
            if (isIn(set, b) && setAttacks(set, b)) {
                return false;
            }
        }
        return true;
    }

    private boolean defends(int set, int a) {
        for (int attacker = 0; attacker < size; attacker++) {
            if (attack[attacker][a] && !setAttacks(set, attacker)) {
                return false;
            }
        }
        return true;
    }

    private boolean isAdmissible(int set) {
        for (int a = 0; a < size; a++) {
            if (isIn(set, a) && !defends(set, a)) {
                return false;
            }
        }
        return isConflictFree(set);
    }

    private boolean hasAllItDefends(int set) {
        for (int a = 0; a < size; a++) {
            if (defends(set, a) && !isIn(set, a)) {
                return false;
            }
        }
        return true;
    }

    private boolean attacksAllOutside(int set) {
        for (int b = 0; b < size; b++) {
            if (!isIn(set, b) && !setAttacks(set, b)) {
                return false;
            }
        }
        return true;
    }

    private int range(int set) {
        int range = 0;
        for (int a = 0; a < size; a++) {
            if (isIn(set, a) || setAttacks(set, a)) {
                range += 1 << a;
            }
        }
        return range;
    }
}
