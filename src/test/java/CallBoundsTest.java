/**
 * "An object is used for at most 512 calls after it has been made; what later calls answer is free." So the 512th call, of
 * whichever method, is answered as the first; and a later one must still end, though no answer is due.
 */
public final class CallBoundsTest {
    private static final Checks CHECKS = new Checks();
    private static final int LAST = 512;

    /** One call of each method and of each way it can end, on an object with no attacks but (0, 1). */
    private enum Call {
        ATTACK_NEW, ATTACK_THERE, ATTACK_BAD, WITHDRAW_THERE, WITHDRAW_NOT_THERE, WITHDRAW_BAD, ATTACKS_TRUE, ATTACKS_FALSE,
        ATTACKS_OUTSIDE, GROUNDED, COUNT, COUNT_BAD, EXTENSION, EXTENSION_NONE, EXTENSION_BAD, IN_SOME, IN_SOME_BAD, IN_EVERY,
        IN_EVERY_BAD, CLEAR;

        int on(ArgumentLabeller x) {
            switch (this) {
                case ATTACK_NEW:
                    return x.attack(1, 1);
                case ATTACK_THERE:
                    return x.attack(0, 1);
                case ATTACK_BAD:
                    return x.attack(8, 0);
                case WITHDRAW_THERE:
                    return x.withdraw(0, 1);
                case WITHDRAW_NOT_THERE:
                    return x.withdraw(1, 0);
                case WITHDRAW_BAD:
                    return x.withdraw(0, -1);
                case ATTACKS_TRUE:
                    return x.attacks(0, 1) ? 1 : 0;
                case ATTACKS_FALSE:
                    return x.attacks(1, 0) ? 1 : 0;
                case ATTACKS_OUTSIDE:
                    return x.attacks(0, 8) ? 1 : 0;
                case GROUNDED:
                    return x.grounded();
                case COUNT:
                    return x.count(3);
                case COUNT_BAD:
                    return x.count(4);
                case EXTENSION:
                    return x.extension(1, 0);
                case EXTENSION_NONE:
                    return x.extension(2, 1);
                case EXTENSION_BAD:
                    return x.extension(-1, 0);
                case IN_SOME:
                    return x.inSome(0);
                case IN_SOME_BAD:
                    return x.inSome(4);
                case IN_EVERY:
                    return x.inEvery(2);
                case IN_EVERY_BAD:
                    return x.inEvery(-1);
                default:
                    return x.clear();
            }
        }

        int due(int size) {
            switch (this) {
                case ATTACK_NEW:
                case WITHDRAW_THERE:
                case ATTACKS_TRUE:
                case COUNT:
                case CLEAR:
                    return 1;
                case ATTACK_THERE:
                case WITHDRAW_NOT_THERE:
                case ATTACKS_FALSE:
                case ATTACKS_OUTSIDE:
                    return 0;
                case GROUNDED:
                case EXTENSION:
                case IN_SOME:
                case IN_EVERY:
                    return Frameworks.all(size) & ~2;
                case EXTENSION_NONE:
                    return Frameworks.NONE;
                default:
                    return Frameworks.BAD;
            }
        }

        boolean changes() {
            return this == ATTACK_NEW || this == WITHDRAW_THERE || this == CLEAR;
        }
    }

    public static void main(String[] args) {
        lastCallIsAnsweredAfterQuestions();
        lastCallIsAnsweredAfterChanges();
        sameCallIsAnsweredThroughout();
        everyChangeThroughoutIsAnswered();
        laterCallsStillEnd();
        CHECKS.end();
    }

    private static void lastCallIsAnsweredAfterQuestions() {
        for (int size : new int[] {2, 8}) {
            for (Call last : Call.values()) {
                ArgumentLabeller x = Frameworks.with(size, 0, 1);
                int made = 1;
                while (made < LAST - 1) {
                    Call call = Call.values()[made % Call.values().length];
                    if (call.changes()) {
                        call = Call.ATTACKS_FALSE;
                    }
                    CHECKS.due("calls: size " + size + " call " + (made + 1) + " " + call, call.on(x), call.due(size));
                    made++;
                }
                CHECKS.due("calls: size " + size + " call 512 " + last, last.on(x), last.due(size));
            }
        }
    }

    private static void lastCallIsAnsweredAfterChanges() {
        for (int size : new int[] {2, 8}) {
            for (Call last : Call.values()) {
                ArgumentLabeller x = new ArgumentLabeller(size);
                for (int made = 0; made < LAST - 1; made += 7) {
                    x.attack(1, 0);
                    x.attack(size - 1, size - 1);
                    x.attack(0, 1);
                    x.withdraw(1, 0);
                    x.attack(0, 0);
                    x.clear();
                    x.attack(0, 1);
                }
                CHECKS.due("calls: size " + size + " after changes, call 512 " + last, last.on(x), last.due(size));
            }
        }
    }

    private static void sameCallIsAnsweredThroughout() {
        for (int size : new int[] {2, 8}) {
            for (Call call : Call.values()) {
                if (!call.changes()) {
                    ArgumentLabeller x = Frameworks.with(size, 0, 1);
                    for (int number = 2; number <= LAST; number++) {
                        CHECKS.due("calls: size " + size + " call " + number + " again " + call, call.on(x), call.due(size));
                    }
                }
            }
        }
    }

    private static void everyChangeThroughoutIsAnswered() {
        for (int size : new int[] {2, 8}) {
            int last = size - 1;
            ArgumentLabeller x = new ArgumentLabeller(size);
            ArgumentLabeller y = new ArgumentLabeller(size);
            for (int number = 1; number < LAST; number += 2) {
                CHECKS.due("calls: size " + size + " call " + number + " attack", x.attack(last, 0), 1);
                CHECKS.due("calls: size " + size + " call " + (number + 1) + " withdraw", x.withdraw(last, 0), 1);
                CHECKS.due("calls: size " + size + " call " + number + " attack", y.attack(0, last), 1);
                CHECKS.due("calls: size " + size + " call " + (number + 1) + " clear", y.clear(), 1);
            }
        }
    }

    private static void laterCallsStillEnd() {
        for (int size : new int[] {2, 8}) {
            ArgumentLabeller x = new ArgumentLabeller(size);
            int made = 0;
            while (made < 5000) {
                Call.values()[made % Call.values().length].on(x);
                made++;
            }
            CHECKS.due("calls: size " + size + " made without a throw", made, 5000);
        }
    }
}
