/**
 * Extensions of an abstract argumentation framework.
 *
 * A set of arguments is a number whose bit a says that argument a is in it.
 */
public final class ArgumentLabeller {
    public static final int COMPLETE = 0;
    public static final int PREFERRED = 1;
    public static final int STABLE = 2;
    public static final int SEMISTABLE = 3;
    public static final int BAD = -1;
    public static final int NONE = -2;

    private static final int FEWEST = 2;
    private static final int MOST = 8;

    /** For each argument, the set of the arguments that it attacks. */
    private final int[] targets = new int[MOST];
    private final int size;
    /** The set of all arguments; as a number also the greatest set there is. */
    private final int all;

    public ArgumentLabeller(int arguments) {
        int clamped = arguments;
        if (clamped < FEWEST) {
            clamped = FEWEST;
        }
        if (clamped > MOST) {
            clamped = MOST;
        }
        size = clamped;
        all = (1 << clamped) - 1;
    }

    public int attack(int a, int b) {
        if (!isArgument(a) || !isArgument(b)) {
            return BAD;
        }
        if (has(targets[a], b)) {
            return 0;
        }
        targets[a] |= 1 << b;
        return 1;
    }

    public int withdraw(int a, int b) {
        if (!isArgument(a) || !isArgument(b)) {
            return BAD;
        }
        if (!has(targets[a], b)) {
            return 0;
        }
        targets[a] &= ~(1 << b);
        return 1;
    }

    public boolean attacks(int a, int b) {
        return isArgument(a) && isArgument(b) && has(targets[a], b);
    }

    public int grounded() {
        int set = 0;
        // Each round before the last change adds an argument, so one round per argument is enough.
        for (int round = 0; round < size; round++) {
            set = defendedBy(set);
        }
        return set;
    }

    public int count(int kind) {
        if (!isKind(kind)) {
            return BAD;
        }
        int found = 0;
        for (int set = 0; set <= all; set++) {
            if (isExtension(kind, set)) {
                found++;
            }
        }
        return found;
    }

    public int extension(int kind, int k) {
        if (!isKind(kind)) {
            return BAD;
        }
        int before = 0;
        for (int set = 0; set <= all; set++) {
            if (isExtension(kind, set)) {
                if (before == k) {
                    return set;
                }
                before++;
            }
        }
        return NONE;
    }

    public int inSome(int kind) {
        if (!isKind(kind)) {
            return BAD;
        }
        int union = 0;
        for (int set = 0; set <= all; set++) {
            if (isExtension(kind, set)) {
                union |= set;
            }
        }
        return union;
    }

    public int inEvery(int kind) {
        if (!isKind(kind)) {
            return BAD;
        }
        int common = all;
        for (int set = 0; set <= all; set++) {
            if (isExtension(kind, set)) {
                common &= set;
            }
        }
        return common;
    }

    public int clear() {
        int taken = 0;
        for (int a = 0; a < size; a++) {
            taken += sizeOf(targets[a]);
            targets[a] = 0;
        }
        return taken;
    }

    private boolean isArgument(int a) {
        return a >= 0 && a < size;
    }

    private static boolean isKind(int kind) {
        return kind >= COMPLETE && kind <= SEMISTABLE;
    }

    private static boolean has(int set, int a) {
        return (set >> a & 1) == 1;
    }

    private static boolean contains(int outer, int inner) {
        return (inner & ~outer) == 0;
    }

    private int sizeOf(int set) {
        int members = 0;
        for (int a = 0; a < size; a++) {
            if (has(set, a)) {
                members++;
            }
        }
        return members;
    }

    private int attackedBy(int set) {
        int attacked = 0;
        for (int a = 0; a < size; a++) {
            // Not has(set, a): calls would then go seven deep from count down to here.
            if ((set >> a & 1) == 1) {
                attacked |= targets[a];
            }
        }
        return attacked;
    }

    private int defendedBy(int set) {
        // An argument is undefended exactly if one of its attackers is not attacked by the set.
        int unattacked = all & ~attackedBy(set);
        return all & ~attackedBy(unattacked);
    }

    private int rangeOf(int set) {
        return set | attackedBy(set);
    }

    private boolean isConflictFree(int set) {
        return (attackedBy(set) & set) == 0;
    }

    private boolean isAdmissible(int set) {
        if (!isConflictFree(set)) {
            return false;
        }
        int defended = defendedBy(set);
        return contains(defended, set);
    }

    private boolean isExtension(int kind, int set) {
        switch (kind) {
            case COMPLETE:
                return isComplete(set);
            case PREFERRED:
                return isPreferred(set);
            case STABLE:
                return isStable(set);
            default:
                return isSemistable(set);
        }
    }

    private boolean isComplete(int set) {
        return isConflictFree(set) && defendedBy(set) == set;
    }

    private boolean isPreferred(int set) {
        if (!isAdmissible(set)) {
            return false;
        }
        // A set that contains another one is the greater number, so the search starts above.
        for (int other = set + 1; other <= all; other++) {
            if (contains(other, set) && isAdmissible(other)) {
                return false;
            }
        }
        return true;
    }

    private boolean isStable(int set) {
        return isConflictFree(set) && rangeOf(set) == all;
    }

    private boolean isSemistable(int set) {
        if (!isAdmissible(set)) {
            return false;
        }
        int range = rangeOf(set);
        for (int other = 0; other <= all; other++) {
            int otherRange = rangeOf(other);
            if (otherRange != range && contains(otherRange, range) && isAdmissible(other)) {
                return false;
            }
        }
        return true;
    }
}
