/** Each promise with ordinary inputs; the answers were worked out by hand. */
public final class PromisesTest {
    public static void main(String[] args) {
        Check.test("Promise 1: a new object", PromisesTest::newObject);
        Check.test("Promise 2: set", PromisesTest::set);
        Check.test("Promise 3: capacity", PromisesTest::capacity);
        Check.test("Promise 4: width", PromisesTest::width);
        Check.test("Promise 5: carries", PromisesTest::carries);
        Check.test("Promise 6: alone", PromisesTest::alone);
        Check.test("Promise 7: most", PromisesTest::most);
        Check.test("Promise 8: besides", PromisesTest::besides);
        Check.test("Promise 9: evenly", PromisesTest::evenly);
        Check.test("Promise 10: pairs", PromisesTest::pairs);
        Check.test("Promise 11: worth", PromisesTest::worth);
        Check.test("Promise 12: loss", PromisesTest::loss);
        Check.test("Promise 13: full", PromisesTest::full);
        Check.test("Promises 3 to 13: a question changes nothing", PromisesTest::questionsChangeNothing);
        Check.end();
    }

    private static void newObject() {
        Check.due("capacity(0, 1)", new TwoFlows().capacity(0, 1), 0);
        Check.due("capacity(4, 2)", new TwoFlows().capacity(4, 2), 0);
    }

    private static void set() {
        TwoFlows x = new TwoFlows();
        Check.due("set(5, 0, 3)", x.set(5, 0, 3), true);
        Check.due("set: kept", x.capacity(5, 0), 3);
        Check.due("set(5, 0, 8)", x.set(5, 0, 8), true);
        Check.due("set: put in place of the old one, not added", x.capacity(5, 0), 8);
        Check.due("set(0, 5, 4)", x.set(0, 5, 4), true);
        Check.due("set: the other way round too", x.capacity(5, 0), 4);
        Check.due("set(2, 3, 6)", x.set(2, 3, 6), true);
        Check.due("set: the rest as it was", x.capacity(5, 0), 4);
    }

    /** Each of the 15 capacities has a value of its own here. */
    private static void capacity() {
        TwoFlows x = new TwoFlows();
        int c = 0;
        for (int a = 0; a < 6; a++) {
            for (int b = a + 1; b < 6; b++) {
                x.set(b, a, ++c);
            }
        }
        c = 0;
        for (int a = 0; a < 6; a++) {
            for (int b = a + 1; b < 6; b++) {
                Check.due("capacity(" + a + ", " + b + ")", x.capacity(a, b), ++c);
                Check.due("capacity(" + b + ", " + a + ")", x.capacity(b, a), c);
            }
        }
    }

    private static void width() {
        TwoFlows x = Networks.bridge();
        Check.due("width(1)", x.width(1), 7);
        Check.due("width(62)", x.width(62), 7);
        Check.due("width(8)", x.width(8), 4);
        Check.due("width(16)", x.width(16), 18);
        Check.due("width(32)", x.width(32), 18);
        Check.due("width(48)", x.width(48), 24);
        Check.due("width(21)", x.width(21), 6);
        Check.due("width(42)", x.width(42), 6);
    }

    private static void carries() {
        TwoFlows x = Networks.bridge();
        Check.due("carries(1, 2)", x.carries(1, 2), true);
        Check.due("carries(2, 4)", x.carries(2, 4), true);
        Check.due("carries(3, 4)", x.carries(3, 4), false);
        Check.due("carries(1, 5)", x.carries(1, 5), false);
        TwoFlows y = Networks.apart();
        Check.due("apart: carries(2, 3)", y.carries(2, 3), true);
        Check.due("apart: carries(3, 2)", y.carries(3, 2), false);
        Check.due("apart: carries(1, 4)", y.carries(1, 4), false);
    }

    private static void alone() {
        Check.due("bridge: alone(0)", Networks.bridge().alone(0), 6);
        Check.due("bridge: alone(1)", Networks.bridge().alone(1), 4);
    }

    private static void most() {
        TwoFlows x = Networks.bridge();
        Check.due("bridge: most()", x.most(), 6);
        x.set(4, 5, 9);
        Check.due("a wider bridge: most()", x.most(), 9);
        x.set(0, 1, 2);
        Check.due("a way of its own for the first good: most()", x.most(), 11);
    }

    private static void besides() {
        TwoFlows x = Networks.bridge();
        int[] answers = {4, 4, 4, 3, 2, 1, 0};
        for (int amount = 0; amount < answers.length; amount++) {
            Check.due("besides(" + amount + ")", x.besides(amount), answers[amount]);
        }
    }

    private static void evenly() {
        Check.due("bridge: evenly()", Networks.bridge().evenly(), 3);
        Check.due("apart: evenly()", Networks.apart().evenly(), 2);
    }

    private static void pairs() {
        Check.due("bridge: pairs()", Networks.bridge().pairs(), 25);
        Check.due("apart: pairs()", Networks.apart().pairs(), 12);
    }

    private static void worth() {
        TwoFlows x = Networks.bridge();
        Check.due("worth(4, 5)", x.worth(4, 5), 1);
        Check.due("worth(5, 4)", x.worth(5, 4), 1);
        Check.due("worth(0, 4)", x.worth(0, 4), 0);
        Check.due("worth(0, 1)", x.worth(0, 1), 1);
        Check.due("worth(3, 2)", x.worth(3, 2), 1);
        Check.due("worth(0, 2)", x.worth(0, 2), 0);
    }

    private static void loss() {
        TwoFlows x = Networks.bridge();
        Check.due("loss(4, 5)", x.loss(4, 5), 6);
        Check.due("loss(5, 4)", x.loss(5, 4), 6);
        Check.due("loss(0, 4)", x.loss(0, 4), 2);
        Check.due("loss(1, 5)", x.loss(1, 5), 2);
        Check.due("loss(2, 4)", x.loss(2, 4), 0);
        Check.due("loss(5, 3)", x.loss(5, 3), 0);
        Check.due("apart: loss(0, 1)", Networks.apart().loss(0, 1), 2);
        Check.due("apart: loss(3, 2)", Networks.apart().loss(3, 2), 3);
    }

    private static void full() {
        TwoFlows x = Networks.bridge();
        Check.due("full(3, 3)", x.full(3, 3), true);
        Check.due("full(2, 4)", x.full(2, 4), true);
        Check.due("full(1, 4)", x.full(1, 4), false);
        Check.due("full(2, 3)", x.full(2, 3), false);
        Check.due("full(4, 3)", x.full(4, 3), false);
    }

    private static void questionsChangeNothing() {
        TwoFlows asked = Networks.bridge();
        asked.width(21);
        asked.carries(2, 4);
        asked.alone(0);
        asked.most();
        asked.besides(3);
        asked.evenly();
        asked.pairs();
        asked.worth(0, 4);
        asked.loss(4, 5);
        asked.full(3, 3);
        TwoFlows fresh = Networks.bridge();
        for (int a = 0; a < 6; a++) {
            for (int b = 0; b < 6; b++) {
                Check.due("asked: capacity(" + a + ", " + b + ")", asked.capacity(a, b), fresh.capacity(a, b));
            }
        }
        for (int side = 0; side < 64; side++) {
            Check.due("asked: width(" + side + ")", asked.width(side), fresh.width(side));
        }
    }
}
