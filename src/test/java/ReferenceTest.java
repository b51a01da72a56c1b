/**
 * Compares the program with a slow reference on many networks. The reference tries every pair
 * of amounts against every side, just as the document's terms say, and uses no shortcut.
 */
public final class ReferenceTest {
    private static final int NETWORKS = 150;
    private static final int CALLS_OF_ONE_OBJECT = 512;

    private static long seed = 20261115;
    private static int[][] wanted = new int[6][6];
    private static TwoFlows made;
    private static int calls;

    public static void main(String[] args) {
        for (int n = 0; n < NETWORKS; n++) {
            wanted = network(n);
            make();
            compareNetwork(n);
        }
        Check.end();
    }

    /** A fixed sequence of numbers, so that each run tests the same networks. */
    private static int next(int bound) {
        seed = (seed * 6364136223846793005L + 1442695040888963407L);
        return (int) ((seed >>> 33) % bound);
    }

    /** From sparse to complete, with small and with great capacities. */
    private static int[][] network(int n) {
        int[][] c = new int[6][6];
        int percent = 20 + 20 * (n % 5);
        int greatest = n % 3 == 0 ? 3 : n % 3 == 1 ? 9 : 20;
        for (int a = 0; a < 6; a++) {
            for (int b = a + 1; b < 6; b++) {
                c[a][b] = next(100) < percent ? 1 + next(greatest) : 0;
                c[b][a] = c[a][b];
            }
        }
        return c;
    }

    private static void make() {
        made = new TwoFlows();
        calls = 0;
        for (int a = 0; a < 6; a++) {
            for (int b = a + 1; b < 6; b++) {
                made.set(a, b, wanted[a][b]);
                calls++;
            }
        }
    }

    /** The object for one more call; a new one when the document's 512 calls are used up. */
    private static TwoFlows object() {
        if (calls == CALLS_OF_ONE_OBJECT) {
            make();
        }
        calls++;
        return made;
    }

    private static void due(int n, String call, int got, int want) {
        Check.due("network " + n + ": " + call, got, want);
    }

    private static void compareNetwork(int n) {
        int[] widths = widths(wanted);
        for (int side = 0; side < 64; side++) {
            due(n, "width(" + side + ")", object().width(side), widths[side]);
        }
        boolean[][] carried = carried(widths);
        compareAmounts(n, carried);
        compareTotals(n, carried);
        comparePairsOfPlaces(n, most(carried));
    }

    private static int[] widths(int[][] c) {
        int[] widths = new int[64];
        for (int side = 0; side < 64; side++) {
            for (int a = 0; a < 6; a++) {
                for (int b = a + 1; b < 6; b++) {
                    if ((side >> a & 1) != (side >> b & 1)) {
                        widths[side] += c[a][b];
                    }
                }
            }
        }
        return widths;
    }

    /** Amounts up to 2 past the widths of the sides {0} and {2}, past which nothing is carried. */
    private static boolean[][] carried(int[] widths) {
        boolean[][] carried = new boolean[widths[1] + 3][widths[4] + 3];
        for (int x = 0; x < carried.length; x++) {
            for (int y = 0; y < carried[x].length; y++) {
                carried[x][y] = isCarried(widths, x, y);
            }
        }
        return carried;
    }

    private static boolean isCarried(int[] widths, int x, int y) {
        for (int side = 0; side < 64; side++) {
            boolean first = (side >> 0 & 1) != (side >> 1 & 1);
            boolean second = (side >> 2 & 1) != (side >> 3 & 1);
            int needed = (first ? x : 0) + (second ? y : 0);
            if (widths[side] < needed) {
                return false;
            }
        }
        return true;
    }

    private static int most(boolean[][] carried) {
        int most = 0;
        for (int x = 0; x < carried.length; x++) {
            for (int y = 0; y < carried[x].length; y++) {
                if (carried[x][y]) {
                    most = Math.max(most, x + y);
                }
            }
        }
        return most;
    }

    private static void compareAmounts(int n, boolean[][] carried) {
        for (int x = 0; x < carried.length; x++) {
            int besides = -1;
            for (int y = 0; y < carried[x].length; y++) {
                besides = carried[x][y] ? y : besides;
                String amounts = "(" + x + ", " + y + ")";
                due(n, "carries" + amounts, object().carries(x, y) ? 1 : 0, carried[x][y] ? 1 : 0);
                boolean full = carried[x][y] && !carried[x + 1][y] && !carried[x][y + 1];
                due(n, "full" + amounts, object().full(x, y) ? 1 : 0, full ? 1 : 0);
            }
            due(n, "besides(" + x + ")", object().besides(x), besides);
        }
    }

    private static void compareTotals(int n, boolean[][] carried) {
        int first = 0;
        int second = 0;
        int evenly = 0;
        int pairs = 0;
        for (int x = 0; x < carried.length; x++) {
            for (int y = 0; y < carried[x].length; y++) {
                if (carried[x][y]) {
                    pairs++;
                    first = y == 0 ? Math.max(first, x) : first;
                    second = x == 0 ? Math.max(second, y) : second;
                    evenly = x == y ? Math.max(evenly, x) : evenly;
                }
            }
        }
        due(n, "alone(0)", object().alone(0), first);
        due(n, "alone(1)", object().alone(1), second);
        due(n, "most()", object().most(), most(carried));
        due(n, "evenly()", object().evenly(), evenly);
        due(n, "pairs()", object().pairs(), pairs);
    }

    private static void comparePairsOfPlaces(int n, int most) {
        for (int a = 0; a < 6; a++) {
            for (int b = a + 1; b < 6; b++) {
                String places = "(" + a + ", " + b + ")";
                int worth = mostWith(a, b, wanted[a][b] + 1) - most;
                int loss = most - mostWith(a, b, 0);
                due(n, "worth" + places, object().worth(a, b), worth);
                due(n, "worth backwards " + places, object().worth(b, a), worth);
                due(n, "loss" + places, object().loss(a, b), loss);
                due(n, "loss backwards " + places, object().loss(b, a), loss);
                due(n, "capacity" + places, object().capacity(a, b), wanted[a][b]);
                due(n, "capacity backwards " + places, object().capacity(b, a), wanted[a][b]);
            }
        }
    }

    private static int mostWith(int a, int b, int c) {
        int[][] other = new int[6][];
        for (int i = 0; i < 6; i++) {
            other[i] = wanted[i].clone();
        }
        other[a][b] = c;
        other[b][a] = c;
        int[] widths = widths(other);
        boolean[][] carried = carried(widths);
        return most(carried);
    }
}
