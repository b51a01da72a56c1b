/** Networks that more than one test asks about. */
final class Networks {
    private Networks() {
    }

    static TwoFlows of(int... triples) {
        TwoFlows x = new TwoFlows();
        for (int i = 0; i < triples.length; i += 3) {
            boolean taken = x.set(triples[i], triples[i + 1], triples[i + 2]);
            Check.due("set while building", taken, true);
        }
        return x;
    }

    /**
     * Both goods cross the capacity 4-5. The narrowest sides are {0} with 7 for the first good
     * only, {3} with 4 for the second only, and {0, 2, 4} with 6 for both.
     */
    static TwoFlows bridge() {
        return of(0, 4, 7, 2, 4, 5, 4, 5, 6, 5, 1, 8, 5, 3, 4);
    }

    /** The goods don't meet: 2 of the first and 3 of the second, whatever the other does. */
    static TwoFlows apart() {
        return of(0, 1, 2, 2, 3, 3);
    }

    /** Only 4-5 binds, and it binds both goods together. */
    static TwoFlows shared(int c) {
        return of(0, 4, 20, 2, 4, 20, 4, 5, c, 5, 1, 20, 5, 3, 20);
    }

    /** As shared, but the second good has to go against the first one through 4-5. */
    static TwoFlows sharedAgainst(int c) {
        return of(0, 4, 20, 3, 4, 20, 4, 5, c, 5, 1, 20, 5, 2, 20);
    }

    static TwoFlows everything(int c) {
        TwoFlows x = new TwoFlows();
        for (int a = 0; a < 6; a++) {
            for (int b = a + 1; b < 6; b++) {
                x.set(a, b, c);
            }
        }
        return x;
    }
}
