/** Each promise on small networks whose answers were worked out by hand. */
public final class PromisesTest {
    private static final int MAX = Integer.MAX_VALUE;
    private static final int MIN = Integer.MIN_VALUE;
    private static final int[] NOT_PLACES = {-1, 6, 7, 32, MAX, MIN};

    private static int wrong = 0;

    public static void main(String[] args) {
        newObject();
        set();
        setRefusals();
        capacity();
        width();
        carries();
        alone();
        most();
        besides();
        evenly();
        pairs();
        worth();
        loss();
        full();
        questionsChangeNothing();
        System.out.println(wrong == 0 ? "all answers are as due" : wrong + " answers are not as due");
        if (wrong != 0) {
            System.exit(1);
        }
    }

    private static void due(String call, int got, int want) {
        if (got != want) {
            wrong++;
            System.out.println(call + " answered " + got + ", due is " + want);
        }
    }

    private static void due(String call, boolean got, boolean want) {
        if (got != want) {
            wrong++;
            System.out.println(call + " answered " + got + ", due is " + want);
        }
    }

    private static TwoFlows network(int... triples) {
        TwoFlows x = new TwoFlows();
        for (int i = 0; i < triples.length; i += 3) {
            boolean taken = x.set(triples[i], triples[i + 1], triples[i + 2]);
            due("set while building", taken, true);
        }
        return x;
    }

    /**
     * Both goods cross the capacity 4-5. The narrowest sides are {0} with 7 for the first good
     * only, {3} with 4 for the second only, and {0, 2, 4} with 6 for both.
     */
    private static TwoFlows bridge() {
        return network(0, 4, 7, 2, 4, 5, 4, 5, 6, 5, 1, 8, 5, 3, 4);
    }

    /** The goods don't meet: 2 of the first and 3 of the second, whatever the other does. */
    private static TwoFlows apart() {
        return network(0, 1, 2, 2, 3, 3);
    }

    private static TwoFlows everything(int c) {
        TwoFlows x = new TwoFlows();
        for (int a = 0; a < 6; a++) {
            for (int b = a + 1; b < 6; b++) {
                x.set(a, b, c);
            }
        }
        return x;
    }

    private static void newObject() {
        TwoFlows x = new TwoFlows();
        for (int a = 0; a < 6; a++) {
            for (int b = 0; b < 6; b++) {
                due("new: capacity(" + a + ", " + b + ")", x.capacity(a, b), a == b ? -1 : 0);
            }
        }
        TwoFlows y = new TwoFlows();
        x.set(0, 1, 5);
        due("new: an object of its own", y.capacity(0, 1), 0);
        due("new: an object after another", new TwoFlows().capacity(0, 1), 0);
    }

    private static void set() {
        TwoFlows x = new TwoFlows();
        due("set(0, 1, 0)", x.set(0, 1, 0), true);
        due("set(0, 1, 1)", x.set(0, 1, 1), true);
        due("set(0, 1, 20)", x.set(0, 1, 20), true);
        due("set: greatest kept", x.capacity(0, 1), 20);
        due("set(5, 0, 3)", x.set(5, 0, 3), true);
        due("set: kept", x.capacity(5, 0), 3);
        due("set: kept both ways", x.capacity(0, 5), 3);
        due("set(0, 5, 4)", x.set(0, 5, 4), true);
        due("set: the other way round overwrites", x.capacity(5, 0), 4);
        due("set(0, 5, 0)", x.set(0, 5, 0), true);
        due("set: back to 0", x.capacity(5, 0), 0);
        due("set: the rest as it was", x.capacity(0, 1), 20);
        eachPairIsItsOwn();
    }

    private static void eachPairIsItsOwn() {
        TwoFlows x = new TwoFlows();
        int c = 0;
        for (int a = 0; a < 6; a++) {
            for (int b = a + 1; b < 6; b++) {
                x.set(b, a, ++c);
            }
        }
        c = 0;
        for (int a = 0; a < 6; a++) {
            for (int b = a + 1; b < 6; b++) {
                due("set: capacity(" + a + ", " + b + ")", x.capacity(a, b), ++c);
                due("set: capacity(" + b + ", " + a + ")", x.capacity(b, a), c);
            }
        }
    }

    private static void setRefusals() {
        TwoFlows x = everything(7);
        for (int place : NOT_PLACES) {
            due("set(" + place + ", 1, 5)", x.set(place, 1, 5), false);
            due("set(1, " + place + ", 5)", x.set(1, place, 5), false);
            due("set(" + place + ", " + place + ", 5)", x.set(place, place, 5), false);
        }
        for (int a = 0; a < 6; a++) {
            due("set(" + a + ", " + a + ", 5)", x.set(a, a, 5), false);
        }
        for (int c : new int[] {-1, 21, 100, MAX, MIN}) {
            due("set(2, 4, " + c + ")", x.set(2, 4, c), false);
        }
        for (int a = 0; a < 6; a++) {
            for (int b = 0; b < 6; b++) {
                due("refused: capacity(" + a + ", " + b + ")", x.capacity(a, b), a == b ? -1 : 7);
            }
            due("refused: width(" + (1 << a) + ")", x.width(1 << a), 35);
        }
    }

    private static void capacity() {
        TwoFlows x = everything(9);
        for (int place : NOT_PLACES) {
            due("capacity(" + place + ", 2)", x.capacity(place, 2), -1);
            due("capacity(2, " + place + ")", x.capacity(2, place), -1);
            due("capacity(" + place + ", " + place + ")", x.capacity(place, place), -1);
        }
        due("capacity(5, 5)", x.capacity(5, 5), -1);
        due("capacity(0, 5)", x.capacity(0, 5), 9);
        due("capacity(5, 0)", x.capacity(5, 0), 9);
    }

    private static void width() {
        TwoFlows x = bridge();
        due("width(0)", x.width(0), 0);
        due("width(1)", x.width(1), 7);
        due("width(62)", x.width(62), 7);
        due("width(8)", x.width(8), 4);
        due("width(16)", x.width(16), 18);
        due("width(32)", x.width(32), 18);
        due("width(48)", x.width(48), 24);
        due("width(21)", x.width(21), 6);
        due("width(42)", x.width(42), 6);
        due("width(63)", x.width(63), 0);
        for (int side : new int[] {-1, 64, 65, 128, -64, MAX, MIN}) {
            due("width(" + side + ")", x.width(side), -1);
        }
        due("width(7), all 20", everything(20).width(7), 180);
    }

    private static void carries() {
        TwoFlows x = bridge();
        due("carries(0, 0)", x.carries(0, 0), true);
        due("carries(6, 0)", x.carries(6, 0), true);
        due("carries(7, 0)", x.carries(7, 0), false);
        due("carries(0, 4)", x.carries(0, 4), true);
        due("carries(0, 5)", x.carries(0, 5), false);
        due("carries(2, 4)", x.carries(2, 4), true);
        due("carries(3, 4)", x.carries(3, 4), false);
        due("carries(1, 5)", x.carries(1, 5), false);
        int[][] never = {{-1, 0}, {0, -1}, {-1, -1}, {-1, 3}, {3, -1}, {MIN, 0}, {0, MIN}, {MIN, MIN},
            {MAX, 0}, {0, MAX}, {MAX, MAX}, {MAX, 1}, {1, MAX}, {MAX, MIN}, {MIN, MAX}};
        for (int[] p : never) {
            due("carries(" + p[0] + ", " + p[1] + ")", x.carries(p[0], p[1]), false);
        }
        TwoFlows y = apart();
        due("apart: carries(2, 3)", y.carries(2, 3), true);
        due("apart: carries(3, 0)", y.carries(3, 0), false);
        due("apart: carries(3, 2)", y.carries(3, 2), false);
        due("apart: carries(1, 4)", y.carries(1, 4), false);
        oppositeSidesSeparateToo();
    }

    /** Here the second good has to go against the first one through 4-5: {0, 3, 4} has width 6. */
    private static void oppositeSidesSeparateToo() {
        TwoFlows x = network(0, 4, 9, 3, 4, 9, 4, 5, 6, 5, 1, 9, 5, 2, 9);
        due("opposite: carries(6, 0)", x.carries(6, 0), true);
        due("opposite: carries(0, 6)", x.carries(0, 6), true);
        due("opposite: carries(3, 3)", x.carries(3, 3), true);
        due("opposite: carries(4, 3)", x.carries(4, 3), false);
        due("opposite: carries(3, 4)", x.carries(3, 4), false);
    }

    private static void alone() {
        TwoFlows x = bridge();
        due("alone(0)", x.alone(0), 6);
        due("alone(1)", x.alone(1), 4);
        for (int what : new int[] {-1, 2, 3, MAX, MIN}) {
            due("alone(" + what + ")", x.alone(what), -1);
        }
        due("new: alone(0)", new TwoFlows().alone(0), 0);
        due("new: alone(1)", new TwoFlows().alone(1), 0);
        due("apart: alone(0)", apart().alone(0), 2);
        due("apart: alone(1)", apart().alone(1), 3);
        TwoFlows bridged = network(0, 4, 9, 2, 4, 9, 4, 5, 6, 5, 1, 9, 5, 3, 9);
        due("only both bind: alone(0)", bridged.alone(0), 6);
        due("only both bind: alone(1)", bridged.alone(1), 6);
        due("all 20: alone(0)", everything(20).alone(0), 100);
        due("all 20: alone(1)", everything(20).alone(1), 100);
    }

    private static void most() {
        due("new: most()", new TwoFlows().most(), 0);
        due("bridge: most()", bridge().most(), 6);
        due("apart: most()", apart().most(), 5);
        due("first alone: most()", network(0, 1, 20).most(), 20);
        due("second alone: most()", network(2, 3, 20).most(), 20);
        due("neither: most()", network(0, 2, 20, 1, 3, 20, 4, 5, 20).most(), 0);
        // {0, 2} is as narrow as any side that separates both: 2 * 4 capacities of 20.
        due("all 20: most()", everything(20).most(), 160);
    }

    private static void besides() {
        TwoFlows x = bridge();
        int[] answers = {4, 4, 4, 3, 2, 1, 0};
        for (int amount = 0; amount < answers.length; amount++) {
            due("besides(" + amount + ")", x.besides(amount), answers[amount]);
        }
        for (int amount : new int[] {7, 8, MAX, -1, -6, MIN}) {
            due("besides(" + amount + ")", x.besides(amount), -1);
        }
        due("new: besides(0)", new TwoFlows().besides(0), 0);
        due("new: besides(1)", new TwoFlows().besides(1), -1);
        due("apart: besides(2)", apart().besides(2), 3);
        due("apart: besides(3)", apart().besides(3), -1);
    }

    private static void evenly() {
        due("new: evenly()", new TwoFlows().evenly(), 0);
        due("bridge: evenly()", bridge().evenly(), 3);
        due("first binds: evenly()", network(0, 1, 2, 2, 3, 9).evenly(), 2);
        due("second binds: evenly()", network(0, 1, 9, 2, 3, 4).evenly(), 4);
        due("an odd sum: evenly()", network(0, 4, 9, 2, 4, 9, 4, 5, 7, 5, 1, 9, 5, 3, 9).evenly(), 3);
        due("one good only: evenly()", network(0, 1, 20).evenly(), 0);
        due("all 20: evenly()", everything(20).evenly(), 80);
    }

    private static void pairs() {
        due("new: pairs()", new TwoFlows().pairs(), 1);
        due("bridge: pairs()", bridge().pairs(), 25);
        due("apart: pairs()", apart().pairs(), 12);
        due("first alone: pairs()", network(0, 1, 20).pairs(), 21);
        due("second alone: pairs()", network(2, 3, 20).pairs(), 21);
        // 101 * 101 pairs less those whose sum is 161 .. 200: 40 + 39 + .. + 1.
        due("all 20: pairs()", everything(20).pairs(), 9381);
    }

    private static void worth() {
        TwoFlows x = bridge();
        due("worth(4, 5)", x.worth(4, 5), 1);
        due("worth(5, 4)", x.worth(5, 4), 1);
        due("worth(0, 4)", x.worth(0, 4), 0);
        due("worth(0, 1)", x.worth(0, 1), 1);
        due("worth(3, 2)", x.worth(3, 2), 1);
        due("worth(0, 2)", x.worth(0, 2), 0);
        badPairs("worth");
        TwoFlows y = network(0, 1, 20);
        due("at 20: worth(0, 1)", y.worth(0, 1), 1);
        due("at 20: worth(1, 0)", y.worth(1, 0), 1);
        due("at 20: capacity after worth", y.capacity(0, 1), 20);
        due("at 20: most after worth", y.most(), 20);
        due("new: worth(2, 3)", new TwoFlows().worth(2, 3), 1);
        due("new: worth(4, 5)", new TwoFlows().worth(4, 5), 0);
    }

    private static void loss() {
        TwoFlows x = bridge();
        due("loss(4, 5)", x.loss(4, 5), 6);
        due("loss(5, 4)", x.loss(5, 4), 6);
        due("loss(0, 4)", x.loss(0, 4), 2);
        due("loss(1, 5)", x.loss(1, 5), 2);
        due("loss(2, 4)", x.loss(2, 4), 0);
        due("loss(5, 3)", x.loss(5, 3), 0);
        due("loss(0, 1)", x.loss(0, 1), 0);
        badPairs("loss");
        due("apart: loss(0, 1)", apart().loss(0, 1), 2);
        due("apart: loss(3, 2)", apart().loss(3, 2), 3);
        due("at 20: loss(0, 1)", network(0, 1, 20).loss(0, 1), 20);
    }

    private static void badPairs(String method) {
        TwoFlows x = bridge();
        boolean ofWorth = method.equals("worth");
        for (int p : NOT_PLACES) {
            due(method + "(" + p + ", 1)", ofWorth ? x.worth(p, 1) : x.loss(p, 1), -1);
            due(method + "(1, " + p + ")", ofWorth ? x.worth(1, p) : x.loss(1, p), -1);
            due(method + "(" + p + ", " + p + ")", ofWorth ? x.worth(p, p) : x.loss(p, p), -1);
        }
        for (int p = 0; p < 6; p++) {
            due(method + "(" + p + ", " + p + ")", ofWorth ? x.worth(p, p) : x.loss(p, p), -1);
        }
    }

    private static void full() {
        TwoFlows x = bridge();
        due("full(6, 0)", x.full(6, 0), true);
        due("full(3, 3)", x.full(3, 3), true);
        due("full(2, 4)", x.full(2, 4), true);
        due("full(1, 4)", x.full(1, 4), false);
        due("full(2, 3)", x.full(2, 3), false);
        due("full(0, 0)", x.full(0, 0), false);
        due("full(7, 0)", x.full(7, 0), false);
        due("full(1, 5)", x.full(1, 5), false);
        due("apart: full(2, 3)", apart().full(2, 3), true);
        due("apart: full(1, 3)", apart().full(1, 3), false);
        due("apart: full(2, 2)", apart().full(2, 2), false);
        due("new: full(0, 0)", new TwoFlows().full(0, 0), true);
        int[][] never = {{-1, 0}, {0, -1}, {-1, -1}, {MIN, MIN}, {MAX, MAX}, {MAX, 0}, {0, MAX}, {MAX, -1}};
        for (int[] p : never) {
            due("full(" + p[0] + ", " + p[1] + ")", x.full(p[0], p[1]), false);
            due("new: full(" + p[0] + ", " + p[1] + ")", new TwoFlows().full(p[0], p[1]), false);
        }
    }

    private static void questionsChangeNothing() {
        TwoFlows asked = bridge();
        asked.width(21);
        asked.carries(2, 4);
        asked.alone(0);
        asked.most();
        asked.besides(3);
        asked.evenly();
        asked.pairs();
        asked.full(3, 3);
        for (int a = 0; a < 6; a++) {
            for (int b = 0; b < 6; b++) {
                asked.worth(a, b);
                asked.loss(a, b);
            }
        }
        TwoFlows fresh = bridge();
        for (int a = 0; a < 6; a++) {
            for (int b = 0; b < 6; b++) {
                due("asked: capacity(" + a + ", " + b + ")", asked.capacity(a, b), fresh.capacity(a, b));
            }
        }
        for (int side = 0; side < 64; side++) {
            due("asked: width(" + side + ")", asked.width(side), fresh.width(side));
        }
    }
}
