/** Each promise of the document by itself: ordinary inputs, the edges that it names, and wrong inputs. */
public final class PromisesTest {
    private static final Checks CHECKS = new Checks();
    private static final int BAD = -1;
    private static final int NONE = -2;
    private static final int[] KINDS = {0, 1, 2, 3};
    private static final int[] WRONG_KINDS = {-1, 4, -2, 100, Integer.MIN_VALUE, Integer.MAX_VALUE};

    public static void main(String[] args) {
        promise1NewObject();
        promise2Attack();
        promise3Withdraw();
        promise4Attacks();
        promise5Grounded();
        promise6Count();
        promise7Extension();
        promise8InSome();
        promise9InEvery();
        promise10Clear();
        changeTouchesThatOneAttackAlone();
        questionsChangeNothing();
        objectsAreApart();
        CHECKS.end();
    }

    private static ArgumentLabeller with(int size, int... pairs) {
        ArgumentLabeller x = new ArgumentLabeller(size);
        for (int p = 0; p < pairs.length; p += 2) {
            CHECKS.due("1/2 attack(" + pairs[p] + ", " + pairs[p + 1] + ")", x.attack(pairs[p], pairs[p + 1]), 1);
        }
        return x;
    }

    /** 0 and 1 attack each other, 1 attacks 2, and 2, 3, 4 stand in a ring, so that not every preferred set is stable. */
    private static ArgumentLabeller ringBehindChoice() {
        return with(5, 0, 1, 1, 0, 1, 2, 2, 3, 3, 4, 4, 2);
    }

    private static int[] wrongArguments(int size) {
        return new int[] {-1, size, -2, 31, 32, 33, 64, Integer.MIN_VALUE, Integer.MAX_VALUE};
    }

    private static void promise1NewObject() {
        int[] given = {Integer.MIN_VALUE, -1, 0, 1, 2, 3, 4, 5, 6, 7, 8, 9, 32, Integer.MAX_VALUE};
        int[] sizes = {2, 2, 2, 2, 2, 3, 4, 5, 6, 7, 8, 8, 8, 8};
        for (int g = 0; g < given.length; g++) {
            String name = "1: new(" + given[g] + ") ";
            int all = (1 << sizes[g]) - 1;
            ArgumentLabeller x = new ArgumentLabeller(given[g]);
            CHECKS.due(name + "clear", x.clear(), 0);
            CHECKS.due(name + "grounded", x.grounded(), all);
            for (int kind : KINDS) {
                CHECKS.due(name + "count " + kind, x.count(kind), 1);
                CHECKS.due(name + "extension " + kind, x.extension(kind, 0), all);
            }
            CHECKS.due(name + "last argument", x.attack(sizes[g] - 1, sizes[g] - 1), 1);
            CHECKS.due(name + "beyond the last", x.attack(sizes[g], 0), BAD);
        }
    }

    private static void promise2Attack() {
        for (int size = 2; size <= 8; size++) {
            ArgumentLabeller x = new ArgumentLabeller(size);
            for (int wrong : wrongArguments(size)) {
                CHECKS.due("2: attack(" + wrong + ", 0)", x.attack(wrong, 0), BAD);
                CHECKS.due("2: attack(0, " + wrong + ")", x.attack(0, wrong), BAD);
                CHECKS.due("2: attack(" + wrong + ", " + wrong + ")", x.attack(wrong, wrong), BAD);
            }
            CHECKS.due("2: wrong attacks add nothing", x.clear(), 0);
            for (int a = 0; a < size; a++) {
                for (int b = 0; b < size; b++) {
                    CHECKS.due("2: first attack", x.attack(a, b), 1);
                    CHECKS.due("2: there now", x.attacks(a, b), true);
                    CHECKS.due("2: second attack", x.attack(a, b), 0);
                    CHECKS.due("2: still there", x.attacks(a, b), true);
                }
            }
            CHECKS.due("2: each attack once", x.clear(), size * size);
        }
        ArgumentLabeller x = with(3, 0, 1);
        CHECKS.due("2: one direction alone", x.attacks(1, 0), false);
        CHECKS.due("2: the other direction is another attack", x.attack(1, 0), 1);
    }

    private static void promise3Withdraw() {
        for (int size = 2; size <= 8; size++) {
            ArgumentLabeller x = new ArgumentLabeller(size);
            CHECKS.due("3: nothing to withdraw", x.withdraw(0, 1), 0);
            CHECKS.due("3: withdrawing adds nothing", x.attacks(0, 1), false);
            for (int a = 0; a < size; a++) {
                for (int b = 0; b < size; b++) {
                    x.attack(a, b);
                }
            }
            for (int wrong : wrongArguments(size)) {
                CHECKS.due("3: withdraw(" + wrong + ", 0)", x.withdraw(wrong, 0), BAD);
                CHECKS.due("3: withdraw(0, " + wrong + ")", x.withdraw(0, wrong), BAD);
                CHECKS.due("3: withdraw(" + wrong + ", " + wrong + ")", x.withdraw(wrong, wrong), BAD);
            }
            CHECKS.due("3: withdraw", x.withdraw(0, size - 1), 1);
            CHECKS.due("3: gone", x.attacks(0, size - 1), false);
            CHECKS.due("3: the other direction stays", x.attacks(size - 1, 0), true);
            CHECKS.due("3: withdraw again", x.withdraw(0, size - 1), 0);
            CHECKS.due("3: still gone", x.attacks(0, size - 1), false);
            CHECKS.due("3: withdraw of self", x.withdraw(1, 1), 1);
            CHECKS.due("3: the rest stays", x.clear(), size * size - 2);
        }
        ArgumentLabeller x = with(2, 0, 1);
        x.withdraw(0, 1);
        CHECKS.due("3: added once more", x.attack(0, 1), 1);
    }

    private static void promise4Attacks() {
        for (int size = 2; size <= 8; size++) {
            ArgumentLabeller x = new ArgumentLabeller(size);
            CHECKS.due("4: none at first", x.attacks(0, 0), false);
            for (int a = 0; a < size; a++) {
                for (int b = 0; b < size; b++) {
                    if ((a + 2 * b) % 3 == 0) {
                        x.attack(a, b);
                    }
                }
            }
            for (int a = 0; a < size; a++) {
                for (int b = 0; b < size; b++) {
                    CHECKS.due("4: attacks(" + a + ", " + b + ")", x.attacks(a, b), (a + 2 * b) % 3 == 0);
                }
            }
        }
        for (int size = 2; size <= 8; size++) {
            ArgumentLabeller x = new ArgumentLabeller(size);
            for (int place = 0; place < size * size; place++) {
                x.attack(place / size, place % size);
            }
            for (int wrong : wrongArguments(size)) {
                CHECKS.due("4: attacks(" + wrong + ", 0)", x.attacks(wrong, 0), false);
                CHECKS.due("4: attacks(0, " + wrong + ")", x.attacks(0, wrong), false);
                CHECKS.due("4: attacks(" + wrong + ", " + wrong + ")", x.attacks(wrong, wrong), false);
            }
        }
    }

    private static void promise5Grounded() {
        CHECKS.due("5: no attacks", with(4).grounded(), 15);
        CHECKS.due("5: chain upward", with(8, 0, 1, 1, 2, 2, 3, 3, 4, 4, 5, 5, 6, 6, 7).grounded(), 0x55);
        CHECKS.due("5: chain downward", with(8, 7, 6, 6, 5, 5, 4, 4, 3, 3, 2, 2, 1, 1, 0).grounded(), 0xAA);
        CHECKS.due("5: mutual", with(2, 0, 1, 1, 0).grounded(), 0);
        CHECKS.due("5: self attack", with(2, 0, 0).grounded(), 2);
        CHECKS.due("5: self attacker spoils", with(2, 0, 0, 0, 1).grounded(), 0);
        CHECKS.due("5: ring of three", with(3, 0, 1, 1, 2, 2, 0).grounded(), 0);
        CHECKS.due("5: choice below, reinstated above", with(5, 0, 1, 1, 0, 2, 3, 3, 4).grounded(), 20);
        // Both sides of the choice attack 2, which attacks 3; the grounded set is more cautious than the preferred ones.
        CHECKS.due("5: floating", with(4, 0, 1, 1, 0, 0, 2, 1, 2, 2, 3).grounded(), 0);
    }

    private static void promise6Count() {
        ArgumentLabeller x = ringBehindChoice();
        CHECKS.due("6: complete", x.count(ArgumentLabeller.COMPLETE), 3);
        CHECKS.due("6: preferred", x.count(ArgumentLabeller.PREFERRED), 2);
        CHECKS.due("6: stable", x.count(ArgumentLabeller.STABLE), 1);
        CHECKS.due("6: semistable", x.count(ArgumentLabeller.SEMISTABLE), 1);
        for (int kind : WRONG_KINDS) {
            CHECKS.due("6: count(" + kind + ")", x.count(kind), BAD);
        }
        ArgumentLabeller ring = with(3, 0, 1, 1, 2, 2, 0);
        CHECKS.due("6: a ring has no stable set", ring.count(2), 0);
        CHECKS.due("6: a ring has the empty semistable set", ring.count(3), 1);
        ArgumentLabeller pairs = with(8, 0, 1, 1, 0, 2, 3, 3, 2, 4, 5, 5, 4, 6, 7, 7, 6);
        CHECKS.due("6: four choices, complete", pairs.count(0), 81);
        CHECKS.due("6: four choices, preferred", pairs.count(1), 16);
        CHECKS.due("6: four choices, stable", pairs.count(2), 16);
        CHECKS.due("6: four choices, semistable", pairs.count(3), 16);
        // Two semistable sets, none of them stable: 2 attacks itself alone and is in no range.
        ArgumentLabeller self = with(3, 0, 1, 1, 0, 2, 2);
        CHECKS.due("6: self attack, preferred", self.count(1), 2);
        CHECKS.due("6: self attack, stable", self.count(2), 0);
        CHECKS.due("6: self attack, semistable", self.count(3), 2);
    }

    private static void promise7Extension() {
        ArgumentLabeller x = ringBehindChoice();
        int[][] due = {{0, 1, 10}, {1, 10}, {10}, {10}};
        for (int kind : KINDS) {
            for (int k = 0; k < due[kind].length; k++) {
                CHECKS.due("7: extension(" + kind + ", " + k + ")", x.extension(kind, k), due[kind][k]);
            }
            int[] outside = {due[kind].length, -1, -2, 256, Integer.MIN_VALUE, Integer.MAX_VALUE};
            for (int k : outside) {
                CHECKS.due("7: extension(" + kind + ", " + k + ")", x.extension(kind, k), NONE);
            }
        }
        for (int kind : WRONG_KINDS) {
            CHECKS.due("7: wrong kind " + kind, x.extension(kind, 0), BAD);
            CHECKS.due("7: wrong kind " + kind + " before wrong k", x.extension(kind, -1), BAD);
            CHECKS.due("7: wrong kind " + kind + " before great k", x.extension(kind, 1000), BAD);
        }
        CHECKS.due("7: no stable set", with(2, 0, 0).extension(2, 0), NONE);
        CHECKS.due("7: the empty set is an extension", with(2, 0, 0, 1, 1).extension(3, 0), 0);
    }

    private static void promise8InSome() {
        ArgumentLabeller x = ringBehindChoice();
        int[] due = {11, 11, 10, 10};
        for (int kind : KINDS) {
            CHECKS.due("8: inSome(" + kind + ")", x.inSome(kind), due[kind]);
        }
        for (int kind : WRONG_KINDS) {
            CHECKS.due("8: inSome(" + kind + ")", x.inSome(kind), BAD);
        }
        CHECKS.due("8: none stable", with(8, 0, 0).inSome(2), 0);
        CHECKS.due("8: none stable, yet semistable", with(8, 0, 0).inSome(3), 254);
    }

    private static void promise9InEvery() {
        ArgumentLabeller x = ringBehindChoice();
        int[] due = {0, 0, 10, 10};
        for (int kind : KINDS) {
            CHECKS.due("9: inEvery(" + kind + ")", x.inEvery(kind), due[kind]);
        }
        for (int kind : WRONG_KINDS) {
            CHECKS.due("9: inEvery(" + kind + ")", x.inEvery(kind), BAD);
        }
        for (int size = 2; size <= 8; size++) {
            CHECKS.due("9: none stable of " + size, with(size, 0, 0).inEvery(2), (1 << size) - 1);
        }
        // 3 is in both preferred sets although the grounded set is empty.
        ArgumentLabeller floating = with(4, 0, 1, 1, 0, 0, 2, 1, 2, 2, 3);
        CHECKS.due("9: floating, preferred", floating.inEvery(1), 8);
        CHECKS.due("9: floating, complete", floating.inEvery(0), 0);
    }

    private static void promise10Clear() {
        ArgumentLabeller x = ringBehindChoice();
        CHECKS.due("10: clear", x.clear(), 6);
        for (int a = 0; a < 5; a++) {
            for (int b = 0; b < 5; b++) {
                CHECKS.due("10: attacks(" + a + ", " + b + ") after clear", x.attacks(a, b), false);
            }
        }
        CHECKS.due("10: all grounded", x.grounded(), 31);
        CHECKS.due("10: clear of nothing", x.clear(), 0);
        CHECKS.due("10: attack after clear", x.attack(0, 1), 1);
        x.attack(0, 1);
        x.attack(4, 4);
        x.withdraw(0, 1);
        CHECKS.due("10: what was withdrawn or came twice is not counted", x.clear(), 1);
        ArgumentLabeller full = new ArgumentLabeller(8);
        for (int place = 0; place < 64; place++) {
            full.attack(place / 8, place % 8);
        }
        CHECKS.due("10: every attack there can be", full.clear(), 64);
    }

    private static void changeTouchesThatOneAttackAlone() {
        for (Frameworks.Shape shape : Frameworks.Shape.values()) {
            for (int place = 0; place < 25; place++) {
                ArgumentLabeller x = Frameworks.shaped(shape, 5);
                boolean there = shape.has(place / 5, place % 5, 5);
                CHECKS.due("2: " + shape + " attack at " + place, x.attack(place / 5, place % 5), there ? 0 : 1);
                othersAreAsShaped("2: " + shape + " attack at ", x, shape, place, true);
                CHECKS.due("3: " + shape + " withdraw at " + place, x.withdraw(place / 5, place % 5), 1);
                othersAreAsShaped("3: " + shape + " withdraw at ", x, shape, place, false);
            }
        }
    }

    private static void othersAreAsShaped(String name, ArgumentLabeller x, Frameworks.Shape shape, int changed, boolean there) {
        for (int place = 0; place < 25; place++) {
            boolean due = place == changed ? there : shape.has(place / 5, place % 5, 5);
            CHECKS.due(name + changed + ", then " + place, x.attacks(place / 5, place % 5), due);
        }
    }

    private static void questionsChangeNothing() {
        ArgumentLabeller x = ringBehindChoice();
        for (int round = 0; round < 3; round++) {
            for (int kind = -1; kind <= 4; kind++) {
                x.count(kind);
                x.extension(kind, round);
                x.inSome(kind);
                x.inEvery(kind);
            }
            x.grounded();
            x.attacks(0, 0);
            x.attack(5, 0);
            x.withdraw(0, -1);
            CHECKS.due("state: preferred", x.inSome(1), 11);
            CHECKS.due("state: stable", x.extension(2, 0), 10);
        }
        CHECKS.due("state: attacks", x.clear(), 6);
    }

    private static void objectsAreApart() {
        ArgumentLabeller one = with(2, 0, 1);
        ArgumentLabeller two = new ArgumentLabeller(8);
        CHECKS.due("apart: no attack in the other", two.attacks(0, 1), false);
        CHECKS.due("apart: other size", two.grounded(), 255);
        CHECKS.due("apart: nothing to clear", two.clear(), 0);
        CHECKS.due("apart: the first keeps its own", one.grounded(), 1);
    }
}
