/** Says how much of two goods a small network can carry at the same time. */
public final class TwoFlows {
    public static final int BAD = -1;

    private static final int PLACES = 6;
    private static final int CELLS = 36;
    private static final int SIDES = 64;
    private static final int MOST_CAPACITY = 20;

    /** No side is this wide, even with one capacity raised to 21 for worth. */
    private static final int WIDER_THAN_ANY_SIDE = 1000;

    private static final int FIRST_ONLY = 1;
    private static final int SECOND_ONLY = 2;
    private static final int BOTH = 3;

    /** The capacity between a and b stands twice, at a * PLACES + b and at b * PLACES + a. */
    private final int[] capacities = new int[CELLS];

    public TwoFlows() {
    }

    public boolean set(int a, int b, int c) {
        if (!arePlaces(a, b) || c < 0 || c > MOST_CAPACITY) {
            return false;
        }
        store(a, b, c);
        return true;
    }

    public int capacity(int a, int b) {
        if (!arePlaces(a, b)) {
            return BAD;
        }
        return capacities[a * PLACES + b];
    }

    public int width(int side) {
        if (side < 0 || side >= SIDES) {
            return BAD;
        }
        int sum = 0;
        for (int a = 0; a < PLACES; a++) {
            for (int b = 0; b < PLACES; b++) {
                if (isIn(a, side) && !isIn(b, side)) {
                    sum += capacities[a * PLACES + b];
                }
            }
        }
        return sum;
    }

    public boolean carries(int x, int y) {
        if (x < 0 || y < 0) {
            return false;
        }
        // The sum comes last: once both amounts are known to be small, it can't wrap around.
        return x <= narrowest(FIRST_ONLY)
            && y <= narrowest(SECOND_ONLY)
            && x + y <= narrowest(BOTH);
    }

    public int alone(int what) {
        if (what != 0 && what != 1) {
            return BAD;
        }
        int own = narrowest(what == 0 ? FIRST_ONLY : SECOND_ONLY);
        int shared = narrowest(BOTH);
        return smaller(own, shared);
    }

    public int most() {
        int apart = narrowest(FIRST_ONLY) + narrowest(SECOND_ONLY);
        int shared = narrowest(BOTH);
        return smaller(apart, shared);
    }

    public int besides(int x) {
        if (!carries(x, 0)) {
            return BAD;
        }
        int own = narrowest(SECOND_ONLY);
        int left = narrowest(BOTH) - x;
        return smaller(own, left);
    }

    public int evenly() {
        int first = narrowest(FIRST_ONLY);
        int second = narrowest(SECOND_ONLY);
        int half = narrowest(BOTH) / 2;
        int apart = smaller(first, second);
        return smaller(apart, half);
    }

    public int pairs() {
        int greatest = alone(0);
        int count = 0;
        for (int x = 0; x <= greatest; x++) {
            count += besides(x) + 1;
        }
        return count;
    }

    public int worth(int a, int b) {
        if (!arePlaces(a, b)) {
            return BAD;
        }
        // Past MOST_CAPACITY too: the document asks what would be, not what set would take.
        int raised = capacities[a * PLACES + b] + 1;
        return mostWith(a, b, raised) - most();
    }

    public int loss(int a, int b) {
        if (!arePlaces(a, b)) {
            return BAD;
        }
        return most() - mostWith(a, b, 0);
    }

    public boolean full(int x, int y) {
        // Only after the first test is it sure that x + 1 and y + 1 don't wrap around.
        return carries(x, y) && !carries(x + 1, y) && !carries(x, y + 1);
    }

    private static boolean arePlaces(int a, int b) {
        return a >= 0 && a < PLACES && b >= 0 && b < PLACES && a != b;
    }

    private static boolean isIn(int place, int side) {
        return ((side >> place) & 1) == 1;
    }

    private static int smaller(int p, int q) {
        return p < q ? p : q;
    }

    /** FIRST_ONLY, SECOND_ONLY, BOTH, or 0 where the side separates neither good. */
    private static int separatedBy(int side) {
        int separated = 0;
        if (isIn(0, side) != isIn(1, side)) {
            separated += FIRST_ONLY;
        }
        if (isIn(2, side) != isIn(3, side)) {
            separated += SECOND_ONLY;
        }
        return separated;
    }

    private void store(int a, int b, int c) {
        capacities[a * PLACES + b] = c;
        capacities[b * PLACES + a] = c;
    }

    /** The least width of the sides that separate just these goods: all that carrying depends on. */
    private int narrowest(int goods) {
        int least = WIDER_THAN_ANY_SIDE;
        for (int side = 0; side < SIDES; side++) {
            if (separatedBy(side) == goods) {
                int wide = width(side);
                least = smaller(least, wide);
            }
        }
        return least;
    }

    /** What most would answer with capacity c between a and b; the caller has looked at a and b. */
    private int mostWith(int a, int b, int c) {
        int kept = capacities[a * PLACES + b];
        store(a, b, c);
        int answer = most();
        store(a, b, kept);
        return answer;
    }
}
