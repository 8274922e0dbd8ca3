/** The boundary cases of promises 6 to 9: which numbers are kinds, which k there are, and a kind without an extension. */
public final class KindBoundsTest {
    private static final Checks CHECKS = new Checks();
    private static final int BAD = Frameworks.BAD;
    private static final int NONE = Frameworks.NONE;
    private static final int LEAST = Frameworks.LEAST;
    private static final int GREATEST = Frameworks.GREATEST;
    private static final int[] FIRST_OUTSIDE = {-1, 4};
    private static final int[] EXTREMES = {LEAST, GREATEST};
    private static final int[] WRAPPING = {-2, -3, -4, 5, 6, 7, 8, 32, 33, 34, 35, -32, 256, 257, 258, 259,
        LEAST + 1, GREATEST - 1};

    public static void main(String[] args) {
        countTakesFirstAndLastKind();
        countRefusesFirstKindOutside();
        countRefusesLeastAndGreatestInt();
        countRefusesKindsThatWrapAround();
        countOfNoneIsZero();
        countOfTheMostThereAre();
        countLeavesAllAsItWas();

        extensionTakesFirstAndLastKind();
        extensionRefusesFirstKindOutside();
        extensionRefusesLeastAndGreatestInt();
        extensionRefusesKindsThatWrapAround();
        extensionRefusesKindWhateverKIs();
        extensionTakesFirstAndLastK();
        extensionHasNoneForFirstKOutside();
        extensionHasNoneForLeastAndGreatestK();
        extensionHasNoneForKThatWrapsAround();
        extensionHasNoneForAnyKIfThereIsNoExtension();
        extensionAscends();
        extensionLeavesAllAsItWas();

        inSomeTakesFirstAndLastKind();
        inSomeRefusesFirstKindOutside();
        inSomeRefusesLeastAndGreatestInt();
        inSomeRefusesKindsThatWrapAround();
        inSomeOfNoneIsEmpty();
        inSomeOfAllAndOfEmptyExtension();
        inSomeLeavesAllAsItWas();

        inEveryTakesFirstAndLastKind();
        inEveryRefusesFirstKindOutside();
        inEveryRefusesLeastAndGreatestInt();
        inEveryRefusesKindsThatWrapAround();
        inEveryOfNoneIsAll();
        inEveryOfAllAndOfEmptyExtension();
        inEveryLeavesAllAsItWas();
        CHECKS.end();
    }

    /** Four pairs whose members attack each other: 81 complete extensions, of the other kinds 16. */
    private static ArgumentLabeller fourChoices() {
        return Frameworks.shaped(Frameworks.Shape.CHOICES, 8);
    }

    /** 0 and 1 attack each other and 1 attacks 2, which attacks itself: {0} is preferred and not semistable. */
    private static ArgumentLabeller kindsDiffer(int size) {
        return Frameworks.with(size, 0, 1, 1, 0, 1, 2, 2, 2);
    }

    // Promise 6: "BAD for kind outside 0..3."

    private static void countTakesFirstAndLastKind() {
        int[] due = {3, 2, 1, 1};
        for (int size = 3; size <= 8; size++) {
            for (int kind : Frameworks.KINDS) {
                CHECKS.due("6: size " + size + " count(" + kind + ")", kindsDiffer(size).count(kind), due[kind]);
            }
        }
        int[] dueOfTwo = {3, 2, 2, 2};
        for (int kind : Frameworks.KINDS) {
            ArgumentLabeller x = Frameworks.with(2, 0, 1, 1, 0);
            CHECKS.due("6: size 2 count(" + kind + ")", x.count(kind), dueOfTwo[kind]);
        }
    }

    private static void countRefusesFirstKindOutside() {
        countRefuses(FIRST_OUTSIDE);
    }

    private static void countRefusesLeastAndGreatestInt() {
        countRefuses(EXTREMES);
    }

    private static void countRefusesKindsThatWrapAround() {
        countRefuses(WRAPPING);
    }

    private static void countRefuses(int[] kinds) {
        for (int size = 2; size <= 8; size++) {
            for (Frameworks.Shape shape : Frameworks.Shape.values()) {
                ArgumentLabeller x = Frameworks.shaped(shape, size);
                for (int kind : kinds) {
                    CHECKS.due("6: size " + size + " " + shape + " count(" + kind + ")", x.count(kind), BAD);
                }
            }
        }
    }

    private static void countOfNoneIsZero() {
        for (int size = 2; size <= 8; size++) {
            CHECKS.due("6: size " + size + " all attack all, stable", full(size).count(2), 0);
            CHECKS.due("6: size " + size + " one attacks itself, stable", oneSelf(size).count(2), 0);
            for (int kind : new int[] {0, 1, 3}) {
                CHECKS.due("6: size " + size + " all attack all, " + kind, full(size).count(kind), 1);
            }
        }
    }

    private static void countOfTheMostThereAre() {
        int[] due = {81, 16, 16, 16};
        for (int kind : Frameworks.KINDS) {
            CHECKS.due("6: four choices, count(" + kind + ")", fourChoices().count(kind), due[kind]);
        }
        // Choices of one in three, one in three and one in two: no framework of 8 has more preferred extensions.
        ArgumentLabeller threes = Frameworks.with(8, 0, 1, 1, 0, 0, 2, 2, 0, 1, 2, 2, 1,
                3, 4, 4, 3, 3, 5, 5, 3, 4, 5, 5, 4, 6, 7, 7, 6);
        int[] dueOfThrees = {48, 18, 18, 18};
        for (int kind : Frameworks.KINDS) {
            CHECKS.due("6: choices among three, count(" + kind + ")", threes.count(kind), dueOfThrees[kind]);
        }
    }

    private static void countLeavesAllAsItWas() {
        for (int size = 2; size <= 8; size++) {
            for (Frameworks.Shape shape : Frameworks.Shape.values()) {
                String due = Frameworks.spend(Frameworks.shaped(shape, size));
                for (int kind : new int[] {LEAST, -1, 0, 1, 2, 3, 4, GREATEST}) {
                    ArgumentLabeller x = Frameworks.shaped(shape, size);
                    x.count(kind);
                    CHECKS.due("6: size " + size + " " + shape + " after count(" + kind + ")", Frameworks.spend(x), due);
                }
            }
        }
    }

    // Promise 7: "in ascending order ... BAD for kind outside 0..3; NONE for k outside 0 .. count(kind) - 1."

    private static void extensionTakesFirstAndLastKind() {
        int[][] due = {{0, 1, 2}, {1, 2}, {2}, {2}};
        for (int kind : Frameworks.KINDS) {
            ArgumentLabeller x = kindsDiffer(3);
            for (int k = 0; k < due[kind].length; k++) {
                CHECKS.due("7: size 3 extension(" + kind + ", " + k + ")", x.extension(kind, k), due[kind][k]);
            }
        }
    }

    private static void extensionRefusesFirstKindOutside() {
        extensionRefuses(FIRST_OUTSIDE, 0);
    }

    private static void extensionRefusesLeastAndGreatestInt() {
        extensionRefuses(EXTREMES, 0);
    }

    private static void extensionRefusesKindsThatWrapAround() {
        extensionRefuses(WRAPPING, 0);
    }

    private static void extensionRefusesKindWhateverKIs() {
        for (int k : new int[] {LEAST, -2, -1, 1, 2, 81, 256, GREATEST}) {
            extensionRefuses(FIRST_OUTSIDE, k);
            extensionRefuses(EXTREMES, k);
        }
    }

    private static void extensionRefuses(int[] kinds, int k) {
        for (int size = 2; size <= 8; size++) {
            for (Frameworks.Shape shape : Frameworks.Shape.values()) {
                ArgumentLabeller x = Frameworks.shaped(shape, size);
                for (int kind : kinds) {
                    CHECKS.due("7: size " + size + " " + shape + " extension(" + kind + ", " + k + ")", x.extension(kind, k), BAD);
                }
            }
        }
    }

    private static void extensionTakesFirstAndLastK() {
        int[] first = {0, 0x55, 0x55, 0x55};
        int[] last = {80, 15, 15, 15};
        for (int kind : Frameworks.KINDS) {
            CHECKS.due("7: four choices (" + kind + ", 0)", fourChoices().extension(kind, 0), first[kind]);
            CHECKS.due("7: four choices (" + kind + ", last)", fourChoices().extension(kind, last[kind]), 0xAA);
        }
        for (int kind : Frameworks.KINDS) {
            ArgumentLabeller x = Frameworks.with(2, 0, 1, 1, 0);
            CHECKS.due("7: one choice (" + kind + ", 0)", x.extension(kind, 0), kind == 0 ? 0 : 1);
            CHECKS.due("7: one choice (" + kind + ", last)", x.extension(kind, kind == 0 ? 2 : 1), 2);
        }
    }

    private static void extensionHasNoneForFirstKOutside() {
        for (int size = 2; size <= 8; size++) {
            for (Frameworks.Shape shape : Frameworks.Shape.values()) {
                for (int kind : Frameworks.KINDS) {
                    ArgumentLabeller x = Frameworks.shaped(shape, size);
                    String name = "7: size " + size + " " + shape + " extension(" + kind + ", ";
                    int count = x.count(kind);
                    CHECKS.due(name + "-1)", x.extension(kind, -1), NONE);
                    CHECKS.due(name + "count)", x.extension(kind, count), NONE);
                    if (count > 0) {
                        CHECKS.due(name + "0) is there", x.extension(kind, 0) >= 0, true);
                        CHECKS.due(name + "count - 1) is there", x.extension(kind, count - 1) >= 0, true);
                    }
                }
            }
        }
        int[] counts = {81, 16, 16, 16};
        for (int kind : Frameworks.KINDS) {
            CHECKS.due("7: four choices (" + kind + ", -1)", fourChoices().extension(kind, -1), NONE);
            CHECKS.due("7: four choices (" + kind + ", count)", fourChoices().extension(kind, counts[kind]), NONE);
        }
    }

    private static void extensionHasNoneForLeastAndGreatestK() {
        hasNone(LEAST);
        hasNone(GREATEST);
    }

    private static void extensionHasNoneForKThatWrapsAround() {
        for (int k : new int[] {-2, -16, -81, -256, 82, 255, 256, 257, 65536, 1 << 30, LEAST + 1, GREATEST - 1}) {
            hasNone(k);
        }
    }

    private static void hasNone(int k) {
        for (int size = 2; size <= 8; size++) {
            for (Frameworks.Shape shape : Frameworks.Shape.values()) {
                ArgumentLabeller x = Frameworks.shaped(shape, size);
                for (int kind : Frameworks.KINDS) {
                    CHECKS.due("7: size " + size + " " + shape + " extension(" + kind + ", " + k + ")", x.extension(kind, k), NONE);
                }
            }
        }
    }

    private static void extensionHasNoneForAnyKIfThereIsNoExtension() {
        for (int size = 2; size <= 8; size++) {
            for (int k : new int[] {LEAST, -2, -1, 0, 1, 2, 255, 256, GREATEST}) {
                CHECKS.due("7: size " + size + " full extension(2, " + k + ")", full(size).extension(2, k), NONE);
                CHECKS.due("7: size " + size + " one self extension(2, " + k + ")", oneSelf(size).extension(2, k), NONE);
            }
        }
    }

    private static void extensionAscends() {
        for (int kind : Frameworks.KINDS) {
            ArgumentLabeller x = fourChoices();
            int before = -1;
            int count = kind == 0 ? 81 : 16;
            for (int k = 0; k < count; k++) {
                int set = x.extension(kind, k);
                CHECKS.due("7: four choices (" + kind + ", " + k + ") ascends", set > before, true);
                before = set;
            }
        }
    }

    private static void extensionLeavesAllAsItWas() {
        for (int size = 2; size <= 8; size++) {
            for (Frameworks.Shape shape : Frameworks.Shape.values()) {
                String due = Frameworks.spend(Frameworks.shaped(shape, size));
                for (int kind : new int[] {LEAST, -1, 0, 1, 2, 3, 4, GREATEST}) {
                    ArgumentLabeller x = Frameworks.shaped(shape, size);
                    for (int k : new int[] {LEAST, -1, 0, 1, 256, GREATEST}) {
                        x.extension(kind, k);
                    }
                    CHECKS.due("7: size " + size + " " + shape + " after kind " + kind, Frameworks.spend(x), due);
                }
            }
        }
    }

    // Promise 8: "(0 if there is none); BAD for kind outside 0..3."

    private static void inSomeTakesFirstAndLastKind() {
        int[] due = {3, 3, 2, 2};
        for (int size = 3; size <= 8; size++) {
            int free = Frameworks.all(size) & ~7;
            for (int kind : Frameworks.KINDS) {
                CHECKS.due("8: size " + size + " inSome(" + kind + ")", kindsDiffer(size).inSome(kind), due[kind] | free);
            }
        }
        for (int kind : Frameworks.KINDS) {
            CHECKS.due("8: size 2 inSome(" + kind + ")", Frameworks.with(2, 0, 1, 1, 0).inSome(kind), 3);
        }
    }

    private static void inSomeRefusesFirstKindOutside() {
        inSomeRefuses(FIRST_OUTSIDE);
    }

    private static void inSomeRefusesLeastAndGreatestInt() {
        inSomeRefuses(EXTREMES);
    }

    private static void inSomeRefusesKindsThatWrapAround() {
        inSomeRefuses(WRAPPING);
    }

    private static void inSomeRefuses(int[] kinds) {
        for (int size = 2; size <= 8; size++) {
            for (Frameworks.Shape shape : Frameworks.Shape.values()) {
                ArgumentLabeller x = Frameworks.shaped(shape, size);
                for (int kind : kinds) {
                    CHECKS.due("8: size " + size + " " + shape + " inSome(" + kind + ")", x.inSome(kind), BAD);
                }
            }
        }
    }

    private static void inSomeOfNoneIsEmpty() {
        for (int size = 2; size <= 8; size++) {
            CHECKS.due("8: size " + size + " full inSome(2)", full(size).inSome(2), 0);
            CHECKS.due("8: size " + size + " one self inSome(2)", oneSelf(size).inSome(2), 0);
        }
    }

    private static void inSomeOfAllAndOfEmptyExtension() {
        for (int size = 2; size <= 8; size++) {
            for (int kind : Frameworks.KINDS) {
                int all = Frameworks.all(size);
                CHECKS.due("8: size " + size + " new inSome(" + kind + ")", new ArgumentLabeller(size).inSome(kind), all);
                CHECKS.due("8: size " + size + " full inSome(" + kind + ")", full(size).inSome(kind), 0);
            }
        }
    }

    private static void inSomeLeavesAllAsItWas() {
        for (int size = 2; size <= 8; size++) {
            for (Frameworks.Shape shape : Frameworks.Shape.values()) {
                String due = Frameworks.spend(Frameworks.shaped(shape, size));
                for (int kind : new int[] {LEAST, -1, 0, 1, 2, 3, 4, GREATEST}) {
                    ArgumentLabeller x = Frameworks.shaped(shape, size);
                    x.inSome(kind);
                    CHECKS.due("8: size " + size + " " + shape + " after inSome(" + kind + ")", Frameworks.spend(x), due);
                }
            }
        }
    }

    // Promise 9: "(all arguments if there is none); BAD for kind outside 0..3."

    private static void inEveryTakesFirstAndLastKind() {
        int[] due = {0, 0, 2, 2};
        for (int size = 3; size <= 8; size++) {
            int free = Frameworks.all(size) & ~7;
            for (int kind : Frameworks.KINDS) {
                CHECKS.due("9: size " + size + " inEvery(" + kind + ")", kindsDiffer(size).inEvery(kind), due[kind] | free);
            }
        }
        for (int kind : Frameworks.KINDS) {
            CHECKS.due("9: size 2 inEvery(" + kind + ")", Frameworks.with(2, 0, 1, 1, 0).inEvery(kind), 0);
        }
    }

    private static void inEveryRefusesFirstKindOutside() {
        inEveryRefuses(FIRST_OUTSIDE);
    }

    private static void inEveryRefusesLeastAndGreatestInt() {
        inEveryRefuses(EXTREMES);
    }

    private static void inEveryRefusesKindsThatWrapAround() {
        inEveryRefuses(WRAPPING);
    }

    private static void inEveryRefuses(int[] kinds) {
        for (int size = 2; size <= 8; size++) {
            for (Frameworks.Shape shape : Frameworks.Shape.values()) {
                ArgumentLabeller x = Frameworks.shaped(shape, size);
                for (int kind : kinds) {
                    CHECKS.due("9: size " + size + " " + shape + " inEvery(" + kind + ")", x.inEvery(kind), BAD);
                }
            }
        }
    }

    private static void inEveryOfNoneIsAll() {
        for (int size = 2; size <= 8; size++) {
            CHECKS.due("9: size " + size + " full inEvery(2)", full(size).inEvery(2), Frameworks.all(size));
            CHECKS.due("9: size " + size + " one self inEvery(2)", oneSelf(size).inEvery(2), Frameworks.all(size));
        }
    }

    private static void inEveryOfAllAndOfEmptyExtension() {
        for (int size = 2; size <= 8; size++) {
            for (int kind : Frameworks.KINDS) {
                int all = Frameworks.all(size);
                CHECKS.due("9: size " + size + " new inEvery(" + kind + ")", new ArgumentLabeller(size).inEvery(kind), all);
            }
            for (int kind : new int[] {0, 1, 3}) {
                CHECKS.due("9: size " + size + " full inEvery(" + kind + ")", full(size).inEvery(kind), 0);
            }
        }
    }

    private static void inEveryLeavesAllAsItWas() {
        for (int size = 2; size <= 8; size++) {
            for (Frameworks.Shape shape : Frameworks.Shape.values()) {
                String due = Frameworks.spend(Frameworks.shaped(shape, size));
                for (int kind : new int[] {LEAST, -1, 0, 1, 2, 3, 4, GREATEST}) {
                    ArgumentLabeller x = Frameworks.shaped(shape, size);
                    x.inEvery(kind);
                    CHECKS.due("9: size " + size + " " + shape + " after inEvery(" + kind + ")", Frameworks.spend(x), due);
                }
            }
        }
    }

    private static ArgumentLabeller full(int size) {
        return Frameworks.shaped(Frameworks.Shape.FULL, size);
    }

    private static ArgumentLabeller oneSelf(int size) {
        return Frameworks.shaped(Frameworks.Shape.ONE_SELF, size);
    }
}
