import java.util.List;

/** Holds the program against the document's own definitions, on all small frameworks and on many larger ones. */
public final class DefinitionsTest {
    private static final Checks CHECKS = new Checks();

    public static void main(String[] args) {
        allFrameworks(2);
        allFrameworks(3);
        for (int size = 4; size <= 8; size++) {
            for (int outOf = 2; outOf <= 9; outOf++) {
                scatteredFrameworks(size, outOf, 40);
            }
            longRun(size);
        }
        CHECKS.end();
    }

    private static void allFrameworks(int size) {
        for (int code = 0; code < 1 << (size * size); code++) {
            ArgumentLabeller x = new ArgumentLabeller(size);
            Definitions d = new Definitions(size);
            for (int place = 0; place < size * size; place++) {
                if ((code >> place & 1) == 1) {
                    x.attack(place / size, place % size);
                    d.set(place / size, place % size, true);
                }
            }
            compare("size " + size + " framework " + code, x, d);
        }
    }

    /** About one in outOf of all possible attacks, chosen by a fixed sequence of numbers. */
    private static void scatteredFrameworks(int size, int outOf, int frameworks) {
        long state = size * 1000L + outOf;
        for (int f = 0; f < frameworks; f++) {
            ArgumentLabeller x = new ArgumentLabeller(size);
            Definitions d = new Definitions(size);
            for (int place = 0; place < size * size; place++) {
                state = next(state);
                if (pick(state, outOf) == 0) {
                    x.attack(place / size, place % size);
                    d.set(place / size, place % size, true);
                }
            }
            compare("size " + size + " one in " + outOf + " number " + f, x, d);
        }
    }

    /** Changes and questions in turn on one object, within the 512 calls that the document allows. */
    private static void longRun(int size) {
        ArgumentLabeller x = new ArgumentLabeller(size);
        Definitions d = new Definitions(size);
        long state = size;
        for (int call = 0; call < 512; call++) {
            state = next(state);
            int what = pick(state, 60);
            state = next(state);
            int a = pick(state, size);
            state = next(state);
            int b = pick(state, size);
            String name = "size " + size + " call " + call + " ";
            if (what < 20) {
                CHECKS.due(name + "attack", x.attack(a, b), d.isThere(a, b) ? 0 : 1);
                d.set(a, b, true);
            } else if (what < 40) {
                CHECKS.due(name + "withdraw", x.withdraw(a, b), d.isThere(a, b) ? 1 : 0);
                d.set(a, b, false);
            } else if (what < 42) {
                CHECKS.due(name + "clear", x.clear(), d.clear());
            } else if (what < 46) {
                CHECKS.due(name + "attacks", x.attacks(a, b), d.isThere(a, b));
            } else if (what < 48) {
                CHECKS.due(name + "grounded", x.grounded(), d.grounded());
            } else {
                compareOne(name, x, d, what % 4, a);
            }
        }
    }

    private static void compareOne(String name, ArgumentLabeller x, Definitions d, int kind, int k) {
        List<Integer> due = d.extensions(kind);
        CHECKS.due(name + "extension(" + kind + ", " + k + ")", x.extension(kind, k),
                k < due.size() ? due.get(k) : ArgumentLabeller.NONE);
    }

    private static void compare(String name, ArgumentLabeller x, Definitions d) {
        CHECKS.due(name + " grounded()", x.grounded(), d.grounded());
        for (int kind = 0; kind <= 3; kind++) {
            List<Integer> due = d.extensions(kind);
            int some = 0;
            int every = d.all();
            for (int k = 0; k < due.size(); k++) {
                CHECKS.due(name + " extension(" + kind + ", " + k + ")", x.extension(kind, k), due.get(k));
                some |= due.get(k);
                every &= due.get(k);
            }
            CHECKS.due(name + " extension(" + kind + ", count)", x.extension(kind, due.size()), ArgumentLabeller.NONE);
            CHECKS.due(name + " count(" + kind + ")", x.count(kind), due.size());
            CHECKS.due(name + " inSome(" + kind + ")", x.inSome(kind), some);
            CHECKS.due(name + " inEvery(" + kind + ")", x.inEvery(kind), every);
        }
    }

    private static long next(long state) {
        return state * 6364136223846793005L + 1442695040888963407L;
    }

    private static int pick(long state, int bound) {
        return (int) ((state >>> 33) % bound);
    }
}
