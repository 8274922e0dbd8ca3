import java.util.List;

/** Holds the program against the document's own definitions, on all small frameworks and on many larger ones. */
public final class DefinitionsTest {
    private static final Checks CHECKS = new Checks();

    public static void main(String[] args) {
        allFrameworks(2);
        allFrameworks(3);
        allFrameworks(4);
        for (int size = 5; size <= 8; size++) {
            for (int outOf = 2; outOf <= 9; outOf++) {
                scatteredFrameworks(size, outOf, 40);
            }
        }
        for (int size = 2; size <= 8; size++) {
            for (int density = 1; density <= 6; density++) {
                longRun(size, density);
            }
        }
        CHECKS.end();
    }

    private static void allFrameworks(int size) {
        for (int code = 0; code < 1 << (size * size); code++) {
            ArgumentLabeller x = new ArgumentLabeller(size);
            Definitions d = new Definitions(size);
            for (int place = 0; place < size * size; place++) {
                if ((code >> place & 1) == 1) {
                    x.attack(place / size, place % size);
                    d.set(place / size, place % size, true);
                }
            }
            compare("size " + size + " framework " + code, x, d);
        }
    }

    /** About one in outOf of all possible attacks, chosen by a fixed sequence of numbers. */
    private static void scatteredFrameworks(int size, int outOf, int frameworks) {
        long state = size * 1000L + outOf;
        for (int f = 0; f < frameworks; f++) {
            ArgumentLabeller x = new ArgumentLabeller(size);
            Definitions d = new Definitions(size);
            for (int place = 0; place < size * size; place++) {
                state = next(state);
                if (pick(state, outOf) == 0) {
                    x.attack(place / size, place % size);
                    d.set(place / size, place % size, true);
                }
            }
            compare("size " + size + " one in " + outOf + " number " + f, x, d);
        }
    }

    /**
     * Changes, questions and refused calls in turn on one object, all 512 calls that the document allows. About so many of
     * ten possible attacks are there in the end, as density says.
     */
    private static void longRun(int size, int density) {
        ArgumentLabeller x = new ArgumentLabeller(size);
        Definitions d = new Definitions(size);
        long state = size * 100L + density;
        for (int call = 1; call <= 512; call++) {
            state = next(state);
            int what = pick(state, 100);
            state = next(state);
            int a = number(state, size);
            state = next(state);
            int b = number(state, size);
            String name = "size " + size + " density " + density + " call " + call + " ";
            if (what < 50) {
                state = next(state);
                changeOne(name, x, d, pick(state, 10) < density, a, b);
            } else if (what < 51) {
                CHECKS.due(name + "clear", x.clear(), d.clear());
            } else if (what < 60) {
                CHECKS.due(name + "attacks(" + a + ", " + b + ")", x.attacks(a, b), d.isThere(a, b));
            } else if (what < 68) {
                CHECKS.due(name + "grounded", x.grounded(), d.grounded());
            } else {
                state = next(state);
                int kind = number(state, 4);
                state = next(state);
                askOne(name, x, d, what % 4, kind, number(state, 4));
            }
        }
    }

    private static void changeOne(String name, ArgumentLabeller x, Definitions d, boolean add, int a, int b) {
        boolean bad = !d.isArgument(a) || !d.isArgument(b);
        int there = d.isThere(a, b) ? 1 : 0;
        if (add) {
            CHECKS.due(name + "attack(" + a + ", " + b + ")", x.attack(a, b), bad ? ArgumentLabeller.BAD : 1 - there);
        } else {
            CHECKS.due(name + "withdraw(" + a + ", " + b + ")", x.withdraw(a, b), bad ? ArgumentLabeller.BAD : there);
        }
        if (!bad) {
            d.set(a, b, add);
        }
    }

    private static void askOne(String name, ArgumentLabeller x, Definitions d, int question, int kind, int k) {
        boolean bad = kind < 0 || kind > 3;
        List<Integer> due = bad ? List.of() : d.extensions(kind);
        if (question == 0) {
            CHECKS.due(name + "count(" + kind + ")", x.count(kind), bad ? ArgumentLabeller.BAD : due.size());
        } else if (question == 1) {
            CHECKS.due(name + "inSome(" + kind + ")", x.inSome(kind), bad ? ArgumentLabeller.BAD : d.union(due));
        } else if (question == 2) {
            CHECKS.due(name + "inEvery(" + kind + ")", x.inEvery(kind), bad ? ArgumentLabeller.BAD : d.common(due));
        } else {
            int set = k >= 0 && k < due.size() ? due.get(k) : ArgumentLabeller.NONE;
            CHECKS.due(name + "extension(" + kind + ", " + k + ")", x.extension(kind, k), bad ? ArgumentLabeller.BAD : set);
        }
    }

    /** Mostly a number below the bound, now and then one outside. */
    private static int number(long state, int bound) {
        int[] outside = {-1, bound, Integer.MIN_VALUE, Integer.MAX_VALUE};
        int drawn = pick(state, 16 * bound);
        return drawn < outside.length ? outside[drawn] : drawn % bound;
    }

    private static void compare(String name, ArgumentLabeller x, Definitions d) {
        CHECKS.due(name + " grounded()", x.grounded(), d.grounded());
        for (int kind = 0; kind <= 3; kind++) {
            List<Integer> due = d.extensions(kind);
            for (int k = 0; k < due.size(); k++) {
                CHECKS.due(name + " extension(" + kind + ", " + k + ")", x.extension(kind, k), due.get(k));
            }
            CHECKS.due(name + " extension(" + kind + ", count)", x.extension(kind, due.size()), ArgumentLabeller.NONE);
            CHECKS.due(name + " count(" + kind + ")", x.count(kind), due.size());
            CHECKS.due(name + " inSome(" + kind + ")", x.inSome(kind), d.union(due));
            CHECKS.due(name + " inEvery(" + kind + ")", x.inEvery(kind), d.common(due));
        }
    }

    private static long next(long state) {
        return state * 6364136223846793005L + 1442695040888963407L;
    }

    private static int pick(long state, int bound) {
        return (int) ((state >>> 33) % bound);
    }
}
