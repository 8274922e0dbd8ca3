import java.util.stream.IntStream;

/** The boundary cases of promises 1 to 4 and 10: how many arguments there are, which numbers are arguments, how many attacks. */
public final class ArgumentBoundsTest {
    private static final Checks CHECKS = new Checks();
    private static final int BAD = Frameworks.BAD;
    private static final int LEAST = Frameworks.LEAST;
    private static final int GREATEST = Frameworks.GREATEST;

    public static void main(String[] args) {
        newTooSmallIsTwo();
        newTooLargeIsEight();
        newWithinBoundsIsKept();
        newHasNoAttacks();

        attackTakesFirstAndLastArgument();
        attackTakesSelf();
        attackRefusesFirstNumberOutside();
        attackRefusesLeastAndGreatestInt();
        attackRefusesNumbersThatWrapAround();
        attackRefusesTwoNumbersOutside();
        attackRefusedLeavesAllAsItWas();
        attackThereAlreadyLeavesAllAsItWas();
        attackOnEmptyAndOnFull();

        withdrawTakesFirstAndLastArgument();
        withdrawRefusesFirstNumberOutside();
        withdrawRefusesLeastAndGreatestInt();
        withdrawRefusesNumbersThatWrapAround();
        withdrawRefusesTwoNumbersOutside();
        withdrawRefusedLeavesAllAsItWas();
        withdrawNotThereLeavesAllAsItWas();
        withdrawOnEmptyAndOnFull();
        withdrawUndoesAttack();

        attacksTakesFirstAndLastArgument();
        attacksIsFalseForFirstNumberOutside();
        attacksIsFalseForLeastAndGreatestInt();
        attacksIsFalseForNumbersThatWrapAround();
        attacksIsFalseForTwoNumbersOutside();
        attacksLeavesAllAsItWas();

        clearOfNothing();
        clearOfOne();
        clearOfEveryAttackThereCanBe();
        clearCountsWhatIsThereAlone();
        clearTwice();
        clearLeavesANewObject();
        CHECKS.end();
    }

    // Promise 1: "A is arguments clamped into 2..8. No attacks."

    private static void newTooSmallIsTwo() {
        for (int given : new int[] {1, 0, -1, -2, -8, LEAST + 1, LEAST}) {
            hasSize(given, 2);
        }
    }

    private static void newTooLargeIsEight() {
        for (int given : new int[] {9, 10, 16, 31, 32, 33, 256 + 3, GREATEST - 1, GREATEST}) {
            hasSize(given, 8);
        }
    }

    private static void newWithinBoundsIsKept() {
        for (int given = 2; given <= 8; given++) {
            hasSize(given, given);
        }
    }

    private static void hasSize(int given, int size) {
        String name = "1: new(" + given + ") ";
        CHECKS.due(name + "all", new ArgumentLabeller(given).grounded(), Frameworks.all(size));
        CHECKS.due(name + "last attacker", new ArgumentLabeller(given).attack(size - 1, 0), 1);
        CHECKS.due(name + "last attacked", new ArgumentLabeller(given).attack(0, size - 1), 1);
        CHECKS.due(name + "attacker outside", new ArgumentLabeller(given).attack(size, 0), BAD);
        CHECKS.due(name + "attacked outside", new ArgumentLabeller(given).attack(0, size), BAD);
        CHECKS.due(name + "withdraw inside", new ArgumentLabeller(given).withdraw(size - 1, size - 1), 0);
        CHECKS.due(name + "withdraw outside", new ArgumentLabeller(given).withdraw(size, size), BAD);
    }

    private static void newHasNoAttacks() {
        for (int given : new int[] {LEAST, 1, 2, 3, 4, 5, 6, 7, 8, 9, GREATEST}) {
            String name = "1: new(" + given + ") ";
            ArgumentLabeller x = new ArgumentLabeller(given);
            for (int a = 0; a < 8; a++) {
                for (int b = 0; b < 8; b++) {
                    CHECKS.due(name + "attacks(" + a + ", " + b + ")", x.attacks(a, b), false);
                }
            }
            CHECKS.due(name + "clear", x.clear(), 0);
        }
    }

    // Promise 2: "a or b outside 0..A-1: BAD. Answers 1 if it was not there, 0 if it was (then nothing changes)."

    private static void attackTakesFirstAndLastArgument() {
        for (int size = 2; size <= 8; size++) {
            for (int[] pair : corners(size)) {
                ArgumentLabeller x = new ArgumentLabeller(size);
                CHECKS.due(name(2, size, "attack", pair), x.attack(pair[0], pair[1]), 1);
                CHECKS.due(name(2, size, "then attacks", pair), x.attacks(pair[0], pair[1]), true);
                CHECKS.due(name(2, size, "again attack", pair), x.attack(pair[0], pair[1]), 0);
                CHECKS.due(name(2, size, "one and no other", pair), x.clear(), 1);
            }
        }
    }

    private static void attackTakesSelf() {
        for (int size = 2; size <= 8; size++) {
            for (int a = 0; a < size; a++) {
                ArgumentLabeller x = new ArgumentLabeller(size);
                CHECKS.due("2: size " + size + " self " + a, x.attack(a, a), 1);
                CHECKS.due("2: size " + size + " self there " + a, x.attacks(a, a), true);
                CHECKS.due("2: size " + size + " self again " + a, x.attack(a, a), 0);
            }
        }
    }

    private static void attackRefusesFirstNumberOutside() {
        for (int size = 2; size <= 8; size++) {
            attackRefuses(size, -1);
            attackRefuses(size, size);
        }
    }

    private static void attackRefusesLeastAndGreatestInt() {
        for (int size = 2; size <= 8; size++) {
            attackRefuses(size, LEAST);
            attackRefuses(size, GREATEST);
        }
    }

    private static void attackRefusesNumbersThatWrapAround() {
        for (int size = 2; size <= 8; size++) {
            for (int outside : wrapping(size)) {
                attackRefuses(size, outside);
            }
        }
    }

    private static void attackRefuses(int size, int outside) {
        for (Frameworks.Shape shape : Frameworks.Shape.values()) {
            ArgumentLabeller x = Frameworks.shaped(shape, size);
            for (int[] pair : pairsWith(outside, size)) {
                CHECKS.due(name(2, size, shape + " attack", pair), x.attack(pair[0], pair[1]), BAD);
            }
        }
    }

    private static void attackRefusesTwoNumbersOutside() {
        for (int size = 2; size <= 8; size++) {
            ArgumentLabeller x = new ArgumentLabeller(size);
            for (int[] pair : bothOutside(size)) {
                CHECKS.due(name(2, size, "attack", pair), x.attack(pair[0], pair[1]), BAD);
            }
            CHECKS.due("2: size " + size + " none added", x.clear(), 0);
        }
    }

    private static void attackRefusedLeavesAllAsItWas() {
        for (int size = 2; size <= 8; size++) {
            for (Frameworks.Shape shape : Frameworks.Shape.values()) {
                String due = Frameworks.spend(Frameworks.shaped(shape, size));
                for (int outside : new int[] {-1, size, LEAST, GREATEST, 32, size - 32}) {
                    for (int[] pair : pairsWith(outside, size)) {
                        ArgumentLabeller x = Frameworks.shaped(shape, size);
                        x.attack(pair[0], pair[1]);
                        CHECKS.due(name(2, size, shape + " after attack", pair), Frameworks.spend(x), due);
                    }
                }
            }
        }
    }

    private static void attackThereAlreadyLeavesAllAsItWas() {
        for (int size = 2; size <= 8; size++) {
            for (Frameworks.Shape shape : Frameworks.Shape.values()) {
                String due = Frameworks.spend(Frameworks.shaped(shape, size));
                for (int a = 0; a < size; a++) {
                    for (int b = 0; b < size; b++) {
                        if (shape.has(a, b, size)) {
                            int[] pair = {a, b};
                            ArgumentLabeller x = Frameworks.shaped(shape, size);
                            CHECKS.due(name(2, size, shape + " attack again", pair), x.attack(a, b), 0);
                            CHECKS.due(name(2, size, shape + " all", pair), Frameworks.spend(x), due);
                        }
                    }
                }
            }
        }
    }

    private static void attackOnEmptyAndOnFull() {
        for (int size = 2; size <= 8; size++) {
            ArgumentLabeller x = new ArgumentLabeller(size);
            for (int due = 1; due >= 0; due--) {
                for (int place = 0; place < size * size; place++) {
                    int[] pair = {place / size, place % size};
                    CHECKS.due(name(2, size, "attack", pair), x.attack(pair[0], pair[1]), due);
                }
            }
            CHECKS.due("2: size " + size + " full", x.clear(), size * size);
        }
    }

    // Promise 3: "a or b outside 0..A-1: BAD. Answers 1 if it was there, 0 if it was not."

    private static void withdrawTakesFirstAndLastArgument() {
        for (int size = 2; size <= 8; size++) {
            for (int[] pair : corners(size)) {
                ArgumentLabeller x = Frameworks.shaped(Frameworks.Shape.FULL, size);
                CHECKS.due(name(3, size, "withdraw", pair), x.withdraw(pair[0], pair[1]), 1);
                CHECKS.due(name(3, size, "then attacks", pair), x.attacks(pair[0], pair[1]), false);
                CHECKS.due(name(3, size, "again withdraw", pair), x.withdraw(pair[0], pair[1]), 0);
                CHECKS.due(name(3, size, "one and no other", pair), x.clear(), size * size - 1);
            }
        }
    }

    private static void withdrawRefusesFirstNumberOutside() {
        for (int size = 2; size <= 8; size++) {
            withdrawRefuses(size, -1);
            withdrawRefuses(size, size);
        }
    }

    private static void withdrawRefusesLeastAndGreatestInt() {
        for (int size = 2; size <= 8; size++) {
            withdrawRefuses(size, LEAST);
            withdrawRefuses(size, GREATEST);
        }
    }

    private static void withdrawRefusesNumbersThatWrapAround() {
        for (int size = 2; size <= 8; size++) {
            for (int outside : wrapping(size)) {
                withdrawRefuses(size, outside);
            }
        }
    }

    private static void withdrawRefuses(int size, int outside) {
        for (Frameworks.Shape shape : Frameworks.Shape.values()) {
            ArgumentLabeller x = Frameworks.shaped(shape, size);
            for (int[] pair : pairsWith(outside, size)) {
                CHECKS.due(name(3, size, shape + " withdraw", pair), x.withdraw(pair[0], pair[1]), BAD);
            }
        }
    }

    private static void withdrawRefusesTwoNumbersOutside() {
        for (int size = 2; size <= 8; size++) {
            ArgumentLabeller x = Frameworks.shaped(Frameworks.Shape.FULL, size);
            for (int[] pair : bothOutside(size)) {
                CHECKS.due(name(3, size, "withdraw", pair), x.withdraw(pair[0], pair[1]), BAD);
            }
            CHECKS.due("3: size " + size + " none taken", x.clear(), size * size);
        }
    }

    private static void withdrawRefusedLeavesAllAsItWas() {
        for (int size = 2; size <= 8; size++) {
            for (Frameworks.Shape shape : Frameworks.Shape.values()) {
                String due = Frameworks.spend(Frameworks.shaped(shape, size));
                for (int outside : new int[] {-1, size, LEAST, GREATEST, 32, size - 32}) {
                    for (int[] pair : pairsWith(outside, size)) {
                        ArgumentLabeller x = Frameworks.shaped(shape, size);
                        x.withdraw(pair[0], pair[1]);
                        CHECKS.due(name(3, size, shape + " after withdraw", pair), Frameworks.spend(x), due);
                    }
                }
            }
        }
    }

    private static void withdrawNotThereLeavesAllAsItWas() {
        for (int size = 2; size <= 8; size++) {
            for (Frameworks.Shape shape : Frameworks.Shape.values()) {
                String due = Frameworks.spend(Frameworks.shaped(shape, size));
                for (int a = 0; a < size; a++) {
                    for (int b = 0; b < size; b++) {
                        if (!shape.has(a, b, size)) {
                            int[] pair = {a, b};
                            ArgumentLabeller x = Frameworks.shaped(shape, size);
                            CHECKS.due(name(3, size, shape + " withdraw", pair), x.withdraw(a, b), 0);
                            CHECKS.due(name(3, size, shape + " all", pair), Frameworks.spend(x), due);
                        }
                    }
                }
            }
        }
    }

    private static void withdrawOnEmptyAndOnFull() {
        for (int size = 2; size <= 8; size++) {
            ArgumentLabeller x = Frameworks.shaped(Frameworks.Shape.FULL, size);
            for (int due = 1; due >= 0; due--) {
                for (int place = 0; place < size * size; place++) {
                    int[] pair = {place / size, place % size};
                    CHECKS.due(name(3, size, "withdraw", pair), x.withdraw(pair[0], pair[1]), due);
                }
            }
            CHECKS.due("3: size " + size + " empty", x.clear(), 0);
        }
    }

    private static void withdrawUndoesAttack() {
        for (int size = 2; size <= 8; size++) {
            for (Frameworks.Shape shape : Frameworks.Shape.values()) {
                String due = Frameworks.spend(Frameworks.shaped(shape, size));
                for (int[] pair : corners(size)) {
                    if (!shape.has(pair[0], pair[1], size)) {
                        ArgumentLabeller x = Frameworks.shaped(shape, size);
                        CHECKS.due(name(3, size, shape + " attack", pair), x.attack(pair[0], pair[1]), 1);
                        CHECKS.due(name(3, size, shape + " withdraw", pair), x.withdraw(pair[0], pair[1]), 1);
                        CHECKS.due(name(3, size, shape + " all", pair), Frameworks.spend(x), due);
                    }
                }
            }
        }
    }

    // Promise 4: "false for numbers outside 0..A-1."

    private static void attacksTakesFirstAndLastArgument() {
        for (int size = 2; size <= 8; size++) {
            ArgumentLabeller full = Frameworks.shaped(Frameworks.Shape.FULL, size);
            ArgumentLabeller empty = new ArgumentLabeller(size);
            for (int[] pair : corners(size)) {
                CHECKS.due(name(4, size, "full attacks", pair), full.attacks(pair[0], pair[1]), true);
                CHECKS.due(name(4, size, "empty attacks", pair), empty.attacks(pair[0], pair[1]), false);
            }
        }
    }

    private static void attacksIsFalseForFirstNumberOutside() {
        for (int size = 2; size <= 8; size++) {
            attacksIsFalse(size, -1);
            attacksIsFalse(size, size);
        }
    }

    private static void attacksIsFalseForLeastAndGreatestInt() {
        for (int size = 2; size <= 8; size++) {
            attacksIsFalse(size, LEAST);
            attacksIsFalse(size, GREATEST);
        }
    }

    private static void attacksIsFalseForNumbersThatWrapAround() {
        for (int size = 2; size <= 8; size++) {
            for (int outside : wrapping(size)) {
                attacksIsFalse(size, outside);
            }
        }
    }

    private static void attacksIsFalse(int size, int outside) {
        for (Frameworks.Shape shape : Frameworks.Shape.values()) {
            ArgumentLabeller x = Frameworks.shaped(shape, size);
            for (int[] pair : pairsWith(outside, size)) {
                CHECKS.due(name(4, size, shape + " attacks", pair), x.attacks(pair[0], pair[1]), false);
            }
        }
    }

    private static void attacksIsFalseForTwoNumbersOutside() {
        for (int size = 2; size <= 8; size++) {
            ArgumentLabeller x = Frameworks.shaped(Frameworks.Shape.FULL, size);
            for (int[] pair : bothOutside(size)) {
                CHECKS.due(name(4, size, "attacks", pair), x.attacks(pair[0], pair[1]), false);
            }
        }
    }

    private static void attacksLeavesAllAsItWas() {
        for (int size = 2; size <= 8; size++) {
            for (Frameworks.Shape shape : Frameworks.Shape.values()) {
                String due = Frameworks.spend(Frameworks.shaped(shape, size));
                for (int number : new int[] {0, size - 1, -1, size, LEAST, GREATEST}) {
                    ArgumentLabeller x = Frameworks.shaped(shape, size);
                    for (int[] pair : pairsWith(number, size)) {
                        x.attacks(pair[0], pair[1]);
                    }
                    CHECKS.due("4: size " + size + " " + shape + " after " + number, Frameworks.spend(x), due);
                }
            }
        }
    }

    // Promise 10: "Takes all attacks away; answers how many there were."

    private static void clearOfNothing() {
        for (int size = 2; size <= 8; size++) {
            String due = Frameworks.spend(new ArgumentLabeller(size));
            ArgumentLabeller x = new ArgumentLabeller(size);
            CHECKS.due("10: size " + size + " clear of nothing", x.clear(), 0);
            CHECKS.due("10: size " + size + " all", Frameworks.spend(x), due);
        }
    }

    private static void clearOfOne() {
        for (int size = 2; size <= 8; size++) {
            for (int place = 0; place < size * size; place++) {
                int[] pair = {place / size, place % size};
                ArgumentLabeller x = Frameworks.with(size, pair);
                CHECKS.due(name(10, size, "clear of", pair), x.clear(), 1);
                CHECKS.due(name(10, size, "attacks", pair), x.attacks(pair[0], pair[1]), false);
            }
        }
    }

    private static void clearOfEveryAttackThereCanBe() {
        for (int size = 2; size <= 8; size++) {
            ArgumentLabeller x = Frameworks.shaped(Frameworks.Shape.FULL, size);
            CHECKS.due("10: size " + size + " clear of all", x.clear(), size * size);
            for (int place = 0; place < size * size; place++) {
                int[] pair = {place / size, place % size};
                CHECKS.due(name(10, size, "attacks", pair), x.attacks(pair[0], pair[1]), false);
            }
        }
    }

    private static void clearCountsWhatIsThereAlone() {
        for (int size = 2; size <= 8; size++) {
            ArgumentLabeller x = Frameworks.with(size, 0, 1, 0, 1, 1, 0, size, 0, 0, -1, size - 1, size - 1);
            x.withdraw(1, 0);
            x.withdraw(1, 0);
            x.withdraw(-1, 0);
            CHECKS.due("10: size " + size + " repeated, refused, withdrawn", x.clear(), 2);
        }
    }

    private static void clearTwice() {
        for (int size = 2; size <= 8; size++) {
            for (Frameworks.Shape shape : Frameworks.Shape.values()) {
                ArgumentLabeller x = Frameworks.shaped(shape, size);
                x.clear();
                CHECKS.due("10: size " + size + " " + shape + " clear again", x.clear(), 0);
            }
        }
    }

    private static void clearLeavesANewObject() {
        for (int size = 2; size <= 8; size++) {
            String due = Frameworks.spend(new ArgumentLabeller(size));
            for (Frameworks.Shape shape : Frameworks.Shape.values()) {
                ArgumentLabeller x = Frameworks.shaped(shape, size);
                x.clear();
                CHECKS.due("10: size " + size + " " + shape + " then all", Frameworks.spend(x), due);
            }
            ArgumentLabeller x = Frameworks.shaped(Frameworks.Shape.FULL, size);
            x.clear();
            CHECKS.due("10: size " + size + " last attack after clear", x.attack(size - 1, size - 1), 1);
            CHECKS.due("10: size " + size + " still outside after clear", x.attack(size, 0), BAD);
        }
    }

    private static int[][] corners(int size) {
        return new int[][] {{0, 0}, {0, size - 1}, {size - 1, 0}, {size - 1, size - 1}};
    }

    /** Numbers outside that a shift, a narrowing or the length of an array could take for an argument. */
    private static int[] wrapping(int size) {
        IntStream near = IntStream.rangeClosed(size + 1, 9);
        IntStream far = IntStream.of(-2, -size, 31, 32, 33, 32 + size - 1, 63, 64, 128, 255, 256, 65536, -31, -32, -64, -256,
                1 << 30, LEAST + 1, LEAST + size, GREATEST - 1);
        return IntStream.concat(near, far).toArray();
    }

    /** Every pair with the number in one place and any argument in the other, and with the number in both. */
    private static int[][] pairsWith(int number, int size) {
        int[][] pairs = new int[2 * size + 1][];
        for (int a = 0; a < size; a++) {
            pairs[2 * a] = new int[] {number, a};
            pairs[2 * a + 1] = new int[] {a, number};
        }
        pairs[2 * size] = new int[] {number, number};
        return pairs;
    }

    private static int[][] bothOutside(int size) {
        return new int[][] {{-1, size}, {size, -1}, {-1, -1}, {size, size}, {LEAST, GREATEST}, {GREATEST, LEAST}, {-1, size + 1},
            {-size, size * size}, {32, 64}, {LEAST, size}, {-1, GREATEST}};
    }

    private static String name(int promise, int size, String call, int[] pair) {
        return promise + ": size " + size + " " + call + "(" + pair[0] + ", " + pair[1] + ")";
    }
}
