/** The boundary cases of the section "Terms", and of promise 5 with the grounded set. */
public final class TermBoundsTest {
    private static final Checks CHECKS = new Checks();

    public static void main(String[] args) {
        selfAttackerIsInNoExtension();
        selfAttackerStillAttacksOthers();
        selfAttackerNeedsDefenceAgainstItself();
        selfAttackCountsOnce();

        emptySetIsAnExtension();
        emptySetIsNeverStable();
        emptySetIsCompleteUnlessSomethingIsUnattacked();
        setOfAllIsAnExtension();
        setOfAllIsNoneWithOneAttack();
        onlyStableCanHaveNoExtension();

        completeHasEveryArgumentItDefends();
        preferredIsNotWithinAnother();
        stableAttacksEveryArgumentOutside();
        stableEndsWithOneAttackLess();
        semistableOfEqualRangeStayBoth();
        semistableOfSmallerRangeGoes();
        semistableRangesThatDoNotContainEachOtherStay();
        highestBitOfTheLargestObject();

        groundedIsEmpty();
        groundedIsAll();
        groundedOfTheLongestChain();
        groundedOfTheSmallestObject();
        groundedIsWithinEveryComplete();
        groundedIsItselfTheLeastComplete();
        groundedLeavesAllAsItWas();
        CHECKS.end();
    }

    // "an argument may attack itself."

    private static void selfAttackerIsInNoExtension() {
        for (int size = 2; size <= 8; size++) {
            for (int a = 0; a < size; a++) {
                int others = Frameworks.all(size) & ~(1 << a);
                ArgumentLabeller x = Frameworks.with(size, a, a);
                String name = "self: size " + size + " argument " + a + " ";
                CHECKS.due(name + "grounded", x.grounded(), others);
                for (int kind : new int[] {0, 1, 3}) {
                    CHECKS.due(name + "count(" + kind + ")", x.count(kind), 1);
                    CHECKS.due(name + "inSome(" + kind + ")", x.inSome(kind), others);
                }
                CHECKS.due(name + "count(2)", x.count(2), 0);
            }
        }
    }

    private static void selfAttackerStillAttacksOthers() {
        for (int size = 2; size <= 8; size++) {
            ArgumentLabeller x = Frameworks.with(size, 0, 0, 0, size - 1);
            int others = Frameworks.all(size) & ~1 & ~(1 << (size - 1));
            CHECKS.due("self: size " + size + " spoils another, grounded", x.grounded(), others);
            for (int kind : new int[] {0, 1, 3}) {
                CHECKS.due("self: size " + size + " spoils another, " + kind, x.extension(kind, 0), others);
            }
            CHECKS.due("self: size " + size + " spoils another, stable", x.count(2), 0);
        }
    }

    private static void selfAttackerNeedsDefenceAgainstItself() {
        for (int size = 2; size <= 8; size++) {
            // The last attacks 0, the self attacker: out of every extension still, but now within the range.
            ArgumentLabeller x = Frameworks.with(size, 0, 0, size - 1, 0);
            int others = Frameworks.all(size) & ~1;
            CHECKS.due("self: size " + size + " attacked, grounded", x.grounded(), others);
            for (int kind : Frameworks.KINDS) {
                CHECKS.due("self: size " + size + " attacked, count(" + kind + ")", x.count(kind), 1);
                CHECKS.due("self: size " + size + " attacked, extension(" + kind + ", 0)", x.extension(kind, 0), others);
            }
        }
    }

    private static void selfAttackCountsOnce() {
        for (int size = 2; size <= 8; size++) {
            ArgumentLabeller x = Frameworks.with(size, 0, 0);
            CHECKS.due("self: size " + size + " of one", x.clear(), 1);
            x = Frameworks.shaped(Frameworks.Shape.SELVES, size);
            CHECKS.due("self: size " + size + " of all", x.clear(), size);
        }
    }

    // The empty set and the set of all arguments as extensions; a kind that has no extension.

    private static void emptySetIsAnExtension() {
        for (int size = 2; size <= 8; size++) {
            for (Frameworks.Shape shape : new Frameworks.Shape[] {Frameworks.Shape.FULL, Frameworks.Shape.SELVES}) {
                for (int kind : new int[] {0, 1, 3}) {
                    ArgumentLabeller x = Frameworks.shaped(shape, size);
                    String name = "empty: size " + size + " " + shape + " ";
                    CHECKS.due(name + "count(" + kind + ")", x.count(kind), 1);
                    CHECKS.due(name + "extension(" + kind + ", 0)", x.extension(kind, 0), 0);
                    CHECKS.due(name + "extension(" + kind + ", 1)", x.extension(kind, 1), Frameworks.NONE);
                    CHECKS.due(name + "inSome(" + kind + ")", x.inSome(kind), 0);
                    CHECKS.due(name + "inEvery(" + kind + ")", x.inEvery(kind), 0);
                }
            }
        }
        for (int size = 3; size <= 7; size += 2) {
            for (int kind : new int[] {0, 1, 3}) {
                ArgumentLabeller ring = Frameworks.shaped(Frameworks.Shape.RING, size);
                CHECKS.due("empty: odd ring of " + size + " count(" + kind + ")", ring.count(kind), 1);
                CHECKS.due("empty: odd ring of " + size + " extension(" + kind + ", 0)", ring.extension(kind, 0), 0);
            }
        }
    }

    private static void emptySetIsNeverStable() {
        for (int size = 2; size <= 8; size++) {
            for (Frameworks.Shape shape : Frameworks.Shape.values()) {
                int first = Frameworks.shaped(shape, size).extension(2, 0);
                CHECKS.due("empty: size " + size + " " + shape + " is not stable", first != 0, true);
            }
        }
    }

    private static void emptySetIsCompleteUnlessSomethingIsUnattacked() {
        for (int size = 2; size <= 8; size++) {
            ArgumentLabeller chain = Frameworks.shaped(Frameworks.Shape.CHAIN, size);
            CHECKS.due("empty: size " + size + " chain, first complete is not empty", chain.extension(0, 0) != 0, true);
            ArgumentLabeller ring = Frameworks.shaped(Frameworks.Shape.RING, size);
            CHECKS.due("empty: size " + size + " ring, first complete is empty", ring.extension(0, 0), 0);
        }
    }

    private static void setOfAllIsAnExtension() {
        for (int size = 2; size <= 8; size++) {
            for (int kind : Frameworks.KINDS) {
                ArgumentLabeller x = new ArgumentLabeller(size);
                String name = "all: size " + size + " ";
                CHECKS.due(name + "count(" + kind + ")", x.count(kind), 1);
                CHECKS.due(name + "extension(" + kind + ", 0)", x.extension(kind, 0), Frameworks.all(size));
                CHECKS.due(name + "extension(" + kind + ", 1)", x.extension(kind, 1), Frameworks.NONE);
                CHECKS.due(name + "inSome(" + kind + ")", x.inSome(kind), Frameworks.all(size));
                CHECKS.due(name + "inEvery(" + kind + ")", x.inEvery(kind), Frameworks.all(size));
            }
        }
    }

    private static void setOfAllIsNoneWithOneAttack() {
        for (int size = 2; size <= 8; size++) {
            for (int place = 0; place < size * size; place++) {
                int b = place % size;
                int others = Frameworks.all(size) & ~(1 << b);
                ArgumentLabeller x = Frameworks.with(size, place / size, b);
                for (int kind : new int[] {0, 1, 3}) {
                    CHECKS.due("all: size " + size + " less " + b + ", kind " + kind, x.inSome(kind), others);
                }
            }
        }
    }

    private static void onlyStableCanHaveNoExtension() {
        for (int size = 2; size <= 8; size++) {
            for (Frameworks.Shape shape : Frameworks.Shape.values()) {
                for (int kind : new int[] {0, 1, 3}) {
                    int count = Frameworks.shaped(shape, size).count(kind);
                    CHECKS.due("none: size " + size + " " + shape + " has one of kind " + kind, count > 0, true);
                }
            }
        }
        for (int size = 3; size <= 7; size += 2) {
            ArgumentLabeller ring = Frameworks.shaped(Frameworks.Shape.RING, size);
            CHECKS.due("none: odd ring of " + size + " stable", ring.count(2), 0);
            CHECKS.due("none: odd ring of " + size + " extension", ring.extension(2, 0), Frameworks.NONE);
            CHECKS.due("none: odd ring of " + size + " in some", ring.inSome(2), 0);
            CHECKS.due("none: odd ring of " + size + " in every", ring.inEvery(2), Frameworks.all(size));
        }
        for (int size = 2; size <= 8; size += 2) {
            ArgumentLabeller ring = Frameworks.shaped(Frameworks.Shape.RING, size);
            CHECKS.due("none: even ring of " + size + " stable", ring.count(2), 2);
            CHECKS.due("none: even ring of " + size + " first", ring.extension(2, 0), 0x55 & Frameworks.all(size));
            CHECKS.due("none: even ring of " + size + " second", ring.extension(2, 1), 0xAA & Frameworks.all(size));
        }
    }

    // The four kinds, at the place where a set just is or just is not one of them.

    private static void completeHasEveryArgumentItDefends() {
        // {0} is admissible but defends 2, so that {0, 2} alone is complete.
        ArgumentLabeller x = Frameworks.with(3, 0, 1, 1, 2);
        CHECKS.due("complete: chain of three, count", x.count(0), 1);
        CHECKS.due("complete: chain of three", x.extension(0, 0), 5);
    }

    private static void preferredIsNotWithinAnother() {
        // {}, {0} and {1} are complete; {} is within the others, they are not within each other.
        ArgumentLabeller x = Frameworks.with(2, 0, 1, 1, 0);
        CHECKS.due("preferred: choice, count", x.count(1), 2);
        CHECKS.due("preferred: choice, first", x.extension(1, 0), 1);
        CHECKS.due("preferred: choice, second", x.extension(1, 1), 2);
        // {2} and {0, 1}: the larger set is the greater number or the smaller one, either way both stay.
        ArgumentLabeller y = Frameworks.with(3, 0, 2, 2, 0, 1, 2, 2, 1);
        CHECKS.due("preferred: one against two, first", y.extension(1, 0), 3);
        CHECKS.due("preferred: one against two, second", y.extension(1, 1), 4);
        CHECKS.due("preferred: one against two, count", y.count(1), 2);
    }

    private static void stableAttacksEveryArgumentOutside() {
        // Without the attack (0, 2) the set {0} leaves 2 unattacked, and 2 attacks itself.
        CHECKS.due("stable: one left out", Frameworks.with(3, 0, 1, 2, 2).count(2), 0);
        CHECKS.due("stable: none left out", Frameworks.with(3, 0, 1, 2, 2, 0, 2).count(2), 1);
        CHECKS.due("stable: that one", Frameworks.with(3, 0, 1, 2, 2, 0, 2).extension(2, 0), 1);
    }

    private static void stableEndsWithOneAttackLess() {
        // {0} and {1, 2} attack each other throughout, until 0 no longer attacks 2.
        ArgumentLabeller x = Frameworks.with(3, 0, 1, 0, 2, 1, 0, 2, 0);
        CHECKS.due("stable: hub against rim, count", x.count(2), 2);
        x.withdraw(0, 2);
        CHECKS.due("stable: hub no longer", x.count(2), 1);
        CHECKS.due("stable: rim alone", x.extension(2, 0), 6);
    }

    private static void semistableOfEqualRangeStayBoth() {
        for (int size = 3; size <= 8; size++) {
            // {0, ..} and {1, ..} have the same range, all but the last, which attacks itself: neither contains more.
            ArgumentLabeller x = Frameworks.with(size, 0, 1, 1, 0, size - 1, size - 1);
            int free = Frameworks.all(size - 1) & ~3;
            CHECKS.due("semistable: size " + size + " equal ranges, count", x.count(3), 2);
            CHECKS.due("semistable: size " + size + " equal ranges, first", x.extension(3, 0), free | 1);
            CHECKS.due("semistable: size " + size + " equal ranges, second", x.extension(3, 1), free | 2);
            CHECKS.due("semistable: size " + size + " equal ranges, stable", x.count(2), 0);
        }
    }

    private static void semistableOfSmallerRangeGoes() {
        // {0} has the range {0, 1}, {1} has {0, 1, 2}; 3 attacks itself and is in neither, so none is stable.
        ArgumentLabeller x = Frameworks.with(4, 0, 1, 1, 0, 1, 2, 2, 2, 3, 3);
        CHECKS.due("semistable: smaller range, count", x.count(3), 1);
        CHECKS.due("semistable: smaller range, the other", x.extension(3, 0), 2);
        CHECKS.due("semistable: smaller range, preferred", x.count(1), 2);
        CHECKS.due("semistable: smaller range, stable", x.count(2), 0);
        // The same with the smaller range at the greater number.
        ArgumentLabeller y = Frameworks.with(4, 0, 1, 1, 0, 0, 2, 2, 2, 3, 3);
        CHECKS.due("semistable: smaller range above, count", y.count(3), 1);
        CHECKS.due("semistable: smaller range above, the other", y.extension(3, 0), 1);
    }

    private static void semistableRangesThatDoNotContainEachOtherStay() {
        // {0} has the range {0, 1, 2}, {1} has {0, 1, 3}.
        ArgumentLabeller x = Frameworks.with(4, 0, 1, 1, 0, 0, 2, 2, 2, 1, 3, 3, 3);
        CHECKS.due("semistable: crossing ranges, count", x.count(3), 2);
        CHECKS.due("semistable: crossing ranges, first", x.extension(3, 0), 1);
        CHECKS.due("semistable: crossing ranges, second", x.extension(3, 1), 2);
    }

    private static void highestBitOfTheLargestObject() {
        // 7 attacks all others: its set is the number 128, which a byte would take for -128.
        ArgumentLabeller x = Frameworks.with(8, 7, 0, 7, 1, 7, 2, 7, 3, 7, 4, 7, 5, 7, 6);
        CHECKS.due("bit 7: grounded", x.grounded(), 128);
        for (int kind : Frameworks.KINDS) {
            CHECKS.due("bit 7: count(" + kind + ")", x.count(kind), 1);
            CHECKS.due("bit 7: extension(" + kind + ", 0)", x.extension(kind, 0), 128);
            CHECKS.due("bit 7: inSome(" + kind + ")", x.inSome(kind), 128);
            CHECKS.due("bit 7: inEvery(" + kind + ")", x.inEvery(kind), 128);
        }
    }

    // Promise 5: "The GROUNDED set is the smallest set that has every argument that it defends."

    private static void groundedIsEmpty() {
        for (int size = 2; size <= 8; size++) {
            for (Frameworks.Shape shape : new Frameworks.Shape[] {
                Frameworks.Shape.FULL, Frameworks.Shape.RING, Frameworks.Shape.SELVES}) {
                CHECKS.due("5: size " + size + " " + shape, Frameworks.shaped(shape, size).grounded(), 0);
            }
        }
        for (int size = 2; size <= 8; size += 2) {
            CHECKS.due("5: size " + size + " choices", Frameworks.shaped(Frameworks.Shape.CHOICES, size).grounded(), 0);
        }
    }

    private static void groundedIsAll() {
        for (int size = 2; size <= 8; size++) {
            CHECKS.due("5: size " + size + " no attacks", new ArgumentLabeller(size).grounded(), Frameworks.all(size));
        }
    }

    private static void groundedOfTheLongestChain() {
        for (int size = 2; size <= 8; size++) {
            ArgumentLabeller up = new ArgumentLabeller(size);
            ArgumentLabeller down = new ArgumentLabeller(size);
            int everySecond = 0;
            for (int a = 0; a + 1 < size; a++) {
                up.attack(a, a + 1);
                down.attack(a + 1, a);
            }
            for (int a = size - 1; a >= 0; a -= 2) {
                everySecond |= 1 << a;
            }
            CHECKS.due("5: size " + size + " chain up", up.grounded(), 0x55 & Frameworks.all(size));
            CHECKS.due("5: size " + size + " chain down", down.grounded(), everySecond);
            // The first of the chain attacks itself as well: nothing is left to start from.
            up.attack(0, 0);
            CHECKS.due("5: size " + size + " chain up from a self attacker", up.grounded(), 0);
            down.attack(size - 1, size - 1);
            CHECKS.due("5: size " + size + " chain down from a self attacker", down.grounded(), 0);
        }
    }

    /** All sixteen frameworks of two arguments; bit 0 of the code is the attack (0, 0), then (0, 1), (1, 0), (1, 1). */
    private static void groundedOfTheSmallestObject() {
        int[] due = {3, 2, 1, 0, 2, 2, 0, 0, 1, 0, 1, 0, 0, 0, 0, 0};
        for (int code = 0; code < 16; code++) {
            ArgumentLabeller x = new ArgumentLabeller(2);
            for (int place = 0; place < 4; place++) {
                if ((code >> place & 1) == 1) {
                    x.attack(place / 2, place % 2);
                }
            }
            CHECKS.due("5: framework " + code + " of two", x.grounded(), due[code]);
        }
    }

    private static void groundedIsWithinEveryComplete() {
        for (int size = 2; size <= 8; size++) {
            for (Frameworks.Shape shape : Frameworks.Shape.values()) {
                ArgumentLabeller x = Frameworks.shaped(shape, size);
                CHECKS.due("5: size " + size + " " + shape + " in every complete", x.grounded(), x.inEvery(0));
            }
        }
    }

    private static void groundedIsItselfTheLeastComplete() {
        for (int size = 2; size <= 8; size++) {
            for (Frameworks.Shape shape : Frameworks.Shape.values()) {
                ArgumentLabeller x = Frameworks.shaped(shape, size);
                CHECKS.due("5: size " + size + " " + shape + " first complete", x.grounded(), x.extension(0, 0));
            }
        }
    }

    private static void groundedLeavesAllAsItWas() {
        for (int size = 2; size <= 8; size++) {
            for (Frameworks.Shape shape : Frameworks.Shape.values()) {
                String due = Frameworks.spend(Frameworks.shaped(shape, size));
                ArgumentLabeller x = Frameworks.shaped(shape, size);
                int first = x.grounded();
                CHECKS.due("5: size " + size + " " + shape + " asked twice", x.grounded(), first);
                CHECKS.due("5: size " + size + " " + shape + " after grounded", Frameworks.spend(x), due);
            }
        }
    }
}
