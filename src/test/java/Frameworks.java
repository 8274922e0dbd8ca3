/** Objects in states that are worth a test, and a way to ask an object for all that it can tell. */
final class Frameworks {
    static final int BAD = -1;
    static final int NONE = -2;
    static final int LEAST = Integer.MIN_VALUE;
    static final int GREATEST = Integer.MAX_VALUE;
    static final int[] KINDS = {0, 1, 2, 3};

    /** Which attacks are there, whatever the number of arguments. */
    enum Shape {
        EMPTY, FULL, CHAIN, RING, CHOICES, SELVES, ONE_SELF, SCATTERED;

        boolean has(int a, int b, int size) {
            switch (this) {
                case FULL:
                    return true;
                case CHAIN:
                    return b == a + 1;
                case RING:
                    return b == (a + 1) % size;
                case CHOICES:
                    return b == (a ^ 1);
                case SELVES:
                    return a == b;
                case ONE_SELF:
                    return a == 0 && b == 0;
                case SCATTERED:
                    return (a + 2 * b) % 3 == 1;
                default:
                    return false;
            }
        }
    }

    private Frameworks() {
    }

    static ArgumentLabeller shaped(Shape shape, int size) {
        ArgumentLabeller x = new ArgumentLabeller(size);
        for (int a = 0; a < size; a++) {
            for (int b = 0; b < size; b++) {
                if (shape.has(a, b, size)) {
                    x.attack(a, b);
                }
            }
        }
        return x;
    }

    /** An object with the attacks (pairs[0], pairs[1]), (pairs[2], pairs[3]) and so on. */
    static ArgumentLabeller with(int size, int... pairs) {
        ArgumentLabeller x = new ArgumentLabeller(size);
        for (int p = 0; p < pairs.length; p += 2) {
            x.attack(pairs[p], pairs[p + 1]);
        }
        return x;
    }

    static int all(int size) {
        return (1 << size) - 1;
    }

    /**
     * All that an object can tell: two objects in the same state answer the same. The object is cleared at the end, for
     * clear alone tells how many attacks the object thinks it has. Stays far below 512 calls together with shaped.
     */
    static String spend(ArgumentLabeller x) {
        StringBuilder told = new StringBuilder("attacks");
        for (int a = 0; a < 9; a++) {
            for (int b = 0; b < 9; b++) {
                told.append(x.attacks(a, b) ? " " + a + ">" + b : "");
            }
        }
        told.append(" grounded ").append(x.grounded());
        for (int kind : KINDS) {
            told.append(" kind ").append(kind).append(" count ").append(x.count(kind));
            told.append(" some ").append(x.inSome(kind)).append(" every ").append(x.inEvery(kind)).append(':');
            int k = 0;
            for (int set = x.extension(kind, k); set != NONE && k < 100; set = x.extension(kind, k)) {
                told.append(' ').append(set);
                k++;
            }
        }
        told.append(" cleared ").append(x.clear()).append(" then ").append(x.grounded());
        return told.toString();
    }
}
