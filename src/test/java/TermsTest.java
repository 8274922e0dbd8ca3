import java.util.ArrayList;
import java.util.List;

/** The sentences of the section "Terms", each by itself, on frameworks small enough to follow by hand. */
public final class TermsTest {
    private static final Checks CHECKS = new Checks();
    private static final int COMPLETE = 0;
    private static final int PREFERRED = 1;
    private static final int STABLE = 2;
    private static final int SEMISTABLE = 3;

    public static void main(String[] args) {
        attacksAreASetWhateverTheOrderOfCalls();
        attackHasADirection();
        bitOfEachArgument();
        setAttacksWhatSomeMemberAttacks();
        conflictFreeSetAttacksNoMember();
        defendedIfEveryAttackerIsAttacked();
        unattackedIsDefendedByTheEmptySet();
        memberMayDefendItself();
        defenceFromOutsideDoesNotCount();
        admissibleIsConflictFreeAndDefended();
        rangeHasTheMembersToo();
        kindsAreWithinEachOther();
        groundedIsWithinSetsWithConflictsToo();
        CHECKS.end();
    }

    /** Asks for all extensions of a kind: those given, in that order, and none after them. */
    private static void extensionsAre(String name, ArgumentLabeller x, int kind, int... due) {
        CHECKS.due(name + " count(" + kind + ")", x.count(kind), due.length);
        for (int k = 0; k < due.length; k++) {
            CHECKS.due(name + " extension(" + kind + ", " + k + ")", x.extension(kind, k), due[k]);
        }
        CHECKS.due(name + " extension(" + kind + ", " + due.length + ")", x.extension(kind, due.length), Frameworks.NONE);
    }

    // "There are A arguments, numbered 0 to A-1, and a set of attacks (a, b)"

    private static void attacksAreASetWhateverTheOrderOfCalls() {
        for (int size = 2; size <= 8; size++) {
            for (Frameworks.Shape shape : Frameworks.Shape.values()) {
                ArgumentLabeller backwards = new ArgumentLabeller(size);
                ArgumentLabeller byWithdrawal = Frameworks.shaped(Frameworks.Shape.FULL, size);
                for (int place = size * size - 1; place >= 0; place--) {
                    if (shape.has(place / size, place % size, size)) {
                        backwards.attack(place / size, place % size);
                    } else {
                        byWithdrawal.withdraw(place / size, place % size);
                    }
                }
                String due = Frameworks.spend(Frameworks.shaped(shape, size));
                CHECKS.due("set: size " + size + " " + shape + " backwards", Frameworks.spend(backwards), due);
                CHECKS.due("set: size " + size + " " + shape + " from full", Frameworks.spend(byWithdrawal), due);
            }
        }
    }

    private static void attackHasADirection() {
        for (int size = 2; size <= 8; size++) {
            for (int a = 0; a < size; a++) {
                for (int b = 0; b < size; b++) {
                    if (a != b) {
                        ArgumentLabeller x = Frameworks.with(size, a, b);
                        int due = Frameworks.all(size) & ~(1 << b);
                        String name = "direction: size " + size + " (" + a + ", " + b + ")";
                        CHECKS.due(name + " attacks", x.attacks(a, b), true);
                        CHECKS.due(name + " attacks back", x.attacks(b, a), false);
                        CHECKS.due(name + " grounded", x.grounded(), due);
                    }
                }
            }
        }
    }

    // "A set of arguments is written as a number whose bit a (value 1 << a) says that argument a is in it."

    private static void bitOfEachArgument() {
        for (int size = 2; size <= 8; size++) {
            for (int alone = 0; alone < size; alone++) {
                ArgumentLabeller x = new ArgumentLabeller(size);
                for (int b = 0; b < size; b++) {
                    if (b != alone) {
                        x.attack(alone, b);
                    }
                }
                String name = "bit: size " + size + " argument " + alone;
                CHECKS.due(name + " grounded", x.grounded(), 1 << alone);
                for (int kind : Frameworks.KINDS) {
                    extensionsAre(name, x, kind, 1 << alone);
                    CHECKS.due(name + " inSome(" + kind + ")", x.inSome(kind), 1 << alone);
                    CHECKS.due(name + " inEvery(" + kind + ")", x.inEvery(kind), 1 << alone);
                }
            }
        }
    }

    // "A set E ATTACKS b iff some member of E attacks b."

    private static void setAttacksWhatSomeMemberAttacks() {
        // Neither 0 nor 1 attacks both 2 and 3, but {0, 1} does.
        extensionsAre("attacks: one each", Frameworks.with(4, 0, 2, 1, 3), STABLE, 3);
        // 3 is attacked by no member of {0, 1, 2}, so it belongs to the set.
        extensionsAre("attacks: none", Frameworks.with(5, 0, 4, 1, 4), STABLE, 15);
    }

    // "E is CONFLICT-FREE iff it attacks none of its members."

    private static void conflictFreeSetAttacksNoMember() {
        ArgumentLabeller mutual = Frameworks.with(3, 0, 1, 1, 0);
        extensionsAre("conflict: mutual", mutual, COMPLETE, 4, 5, 6);
        extensionsAre("conflict: mutual", mutual, STABLE, 5, 6);
        // One direction is a conflict as well, from the lower number or from the higher.
        extensionsAre("conflict: upward", Frameworks.with(2, 0, 1), STABLE, 1);
        extensionsAre("conflict: downward", Frameworks.with(2, 1, 0), STABLE, 2);
        extensionsAre("conflict: with itself", Frameworks.with(2, 0, 0, 0, 1), STABLE);
    }

    // "E DEFENDS a iff E attacks every argument that attacks a."

    private static void defendedIfEveryAttackerIsAttacked() {
        // 0 and 1 attack 2; 3 attacks 0, and at first 4 attacks 1.
        ArgumentLabeller x = Frameworks.with(5, 0, 2, 1, 2, 3, 0, 4, 1);
        CHECKS.due("defends: against both", x.grounded(), 28);
        extensionsAre("defends: against both", x, COMPLETE, 28);
        x.withdraw(4, 1);
        CHECKS.due("defends: against one of two", x.grounded(), 26);
        extensionsAre("defends: against one of two", x, COMPLETE, 26);
        x.withdraw(1, 2);
        CHECKS.due("defends: against the one left", x.grounded(), 30);
        extensionsAre("defends: against the one left", x, COMPLETE, 30);
    }

    private static void unattackedIsDefendedByTheEmptySet() {
        // {} and {1} are conflict-free but lack 0, which they defend.
        extensionsAre("defends: unattacked", Frameworks.with(2, 0, 1), COMPLETE, 1);
        extensionsAre("defends: all unattacked", new ArgumentLabeller(4), COMPLETE, 15);
    }

    private static void memberMayDefendItself() {
        extensionsAre("defends: itself", Frameworks.with(2, 0, 1, 1, 0), PREFERRED, 1, 2);
        extensionsAre("defends: itself, as it need not", Frameworks.with(2, 0, 1, 1, 0), COMPLETE, 0, 1, 2);
    }

    private static void defenceFromOutsideDoesNotCount() {
        // 0 attacks 1, the attacker of 2, but attacks itself and so cannot be in a set with 2.
        ArgumentLabeller x = Frameworks.with(3, 0, 0, 0, 1, 1, 2);
        CHECKS.due("defends: from outside, grounded", x.grounded(), 0);
        extensionsAre("defends: from outside", x, PREFERRED, 0);
    }

    // "E is ADMISSIBLE iff it is conflict-free and defends all of its members."

    private static void admissibleIsConflictFreeAndDefended() {
        // {2} is conflict-free and attacks nothing, {0, 1} defends its members and attacks them.
        ArgumentLabeller x = Frameworks.with(3, 0, 1, 1, 0, 0, 2, 1, 2);
        extensionsAre("admissible: either alone is too little", x, COMPLETE, 0, 1, 2);
        extensionsAre("admissible: either alone is too little", x, PREFERRED, 1, 2);
        // {1, 3} defends 1 against 0 but not 3 against 2: all members count.
        ArgumentLabeller y = Frameworks.with(4, 0, 1, 1, 0, 2, 3);
        extensionsAre("admissible: one undefended member", y, PREFERRED, 5, 6);
    }

    // "The RANGE of E is E together with all arguments that it attacks."

    private static void rangeHasTheMembersToo() {
        // {0} attacks 1 and {1} attacks 0 and 2: what they attack is not comparable, their ranges are.
        ArgumentLabeller x = Frameworks.with(3, 0, 1, 1, 0, 1, 2, 2, 2);
        extensionsAre("range: members", x, PREFERRED, 1, 2);
        extensionsAre("range: members", x, SEMISTABLE, 2);
        // {0} and {1, 2} are not comparable, and again their ranges are.
        ArgumentLabeller y = Frameworks.with(4, 0, 1, 1, 0, 0, 2, 2, 0, 0, 3, 3, 3);
        extensionsAre("range: attacked", y, PREFERRED, 1, 6);
        extensionsAre("range: attacked", y, SEMISTABLE, 1);
    }

    /** What follows from the four definitions: stable ones are semistable, those preferred, and those complete. */
    private static void kindsAreWithinEachOther() {
        for (int size = 2; size <= 8; size++) {
            for (Frameworks.Shape shape : Frameworks.Shape.values()) {
                ArgumentLabeller x = Frameworks.shaped(shape, size);
                String name = "kinds: size " + size + " " + shape + " ";
                for (int[] pair : new int[][] {{STABLE, SEMISTABLE}, {SEMISTABLE, PREFERRED}, {PREFERRED, COMPLETE}}) {
                    CHECKS.due(name + pair[0] + " within " + pair[1], isWithin(x, pair[0], pair[1]), true);
                }
                if (x.count(STABLE) > 0) {
                    CHECKS.due(name + "semistable are stable", isWithin(x, SEMISTABLE, STABLE), true);
                }
            }
        }
    }

    private static boolean isWithin(ArgumentLabeller x, int inner, int outer) {
        return extensions(x, outer).containsAll(extensions(x, inner));
    }

    private static List<Integer> extensions(ArgumentLabeller x, int kind) {
        List<Integer> found = new ArrayList<>();
        int count = x.count(kind);
        for (int k = 0; k < count; k++) {
            found.add(x.extension(kind, k));
        }
        return found;
    }

    // "(There is one, and it is within all others that have every argument that they defend.)"

    private static void groundedIsWithinSetsWithConflictsToo() {
        // {0, 1, 2} defends all three, in conflict or not; {} defends none and is within it.
        CHECKS.due("grounded: ring", Frameworks.with(3, 0, 1, 1, 2, 2, 0).grounded(), 0);
        // {0, 2} defends both of its members, for 2 attacks its own attacker; {0} has what it defends as well and is smaller.
        CHECKS.due("grounded: beside a self attacker", Frameworks.with(3, 0, 1, 2, 2).grounded(), 1);
    }
}
