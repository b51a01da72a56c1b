import java.util.List;
import java.util.function.Consumer;
import java.util.function.Supplier;
import java.util.function.ToIntFunction;

/**
 * A test of its own for each sentence of the document that names a boundary case, in the
 * document's order. The answers were worked out by hand.
 */
public final class BoundaryTest {
    private static final int MAX = Integer.MAX_VALUE;
    private static final int MIN = Integer.MIN_VALUE;

    private static final int[] NOT_PLACES = {-1, 6, MIN, MAX, MIN + 1, MAX - 1, -6, 7, 32, 64};
    private static final int[] NOT_CAPACITIES = {-1, 21, MIN, MAX, MIN + 1, MAX - 1, -20, 22};
    private static final int[] NOT_SIDES = {-1, 64, MIN, MAX, MIN + 1, MAX - 1, -63, -64, 65, 127, 128};
    private static final int[] NOT_GOODS = {-1, 2, MIN, MAX, MIN + 1, MAX - 1, 3};

    /** One below 0, among them some whose sum or whose successor looks as if it could be carried. */
    private static final int[][] BELOW_0 = {{-1, 0}, {0, -1}, {-1, -1}, {-1, 1}, {1, -1}, {-5, 6}, {6, -5},
        {MIN, 0}, {0, MIN}, {MIN, MIN}, {MIN, MAX}, {MAX, MIN}, {MIN, 1}, {1, MIN}, {-1, MAX}, {MAX, -1}};

    /** The sum or a successor doesn't fit into an int, or only just does. */
    private static final int[][] HUGE = {{MAX, 0}, {0, MAX}, {MAX, 1}, {1, MAX}, {MAX, MAX}, {MAX - 1, 1},
        {1, MAX - 1}, {MAX - 1, 2}, {2, MAX - 1}, {MAX - 100, 100}, {100, MAX - 100}, {MAX - 99, 100},
        {100, MAX - 99}, {1 << 30, 1 << 30}, {1 << 30, (1 << 30) - 1}, {MAX - 1, MAX - 1}};

    private static final List<Supplier<TwoFlows>> OBJECTS = List.of(
        () -> Networks.everything(0), () -> Networks.everything(20), Networks::bridge, Networks::apart);

    public static void main(String[] args) {
        callsOfOneObject();
        terms();
        newObject();
        set();
        capacity();
        width();
        carries();
        alone();
        most();
        besides();
        evenly();
        pairs();
        worth();
        loss();
        full();
        Check.end();
    }

    // What it is

    private static void callsOfOneObject() {
        Check.test("What it is: the 512th call still answers, whatever the 511 before it were", () -> {
            the512th("set(4, 5, 6)", x -> x.set(4, 5, 6) ? 1 : 0, 1);
            the512th("set(4, 5, 21)", x -> x.set(4, 5, 21) ? 1 : 0, 0);
            the512th("capacity(5, 4)", x -> x.capacity(5, 4), 6);
            the512th("width(63)", x -> x.width(63), 0);
            the512th("width(21)", x -> x.width(21), 6);
            the512th("carries(2, 4)", x -> x.carries(2, 4) ? 1 : 0, 1);
            the512th("alone(0)", x -> x.alone(0), 6);
            the512th("most()", x -> x.most(), 6);
            the512th("besides(3)", x -> x.besides(3), 3);
            the512th("evenly()", x -> x.evenly(), 3);
            the512th("pairs()", x -> x.pairs(), 25);
            the512th("worth(4, 5)", x -> x.worth(4, 5), 1);
            the512th("loss(4, 5)", x -> x.loss(4, 5), 6);
            the512th("full(3, 3)", x -> x.full(3, 3) ? 1 : 0, 1);
        });
        Check.test("What it is: 511 settings are all taken, and the 512th call shows the last", () -> {
            TwoFlows x = new TwoFlows();
            for (int call = 1; call <= 511; call++) {
                Check.due("setting " + call, x.set(call % 6, (call + 1) % 6, call % 21), true);
            }
            Check.due("capacity after 511 settings", x.capacity(1, 2), 511 % 21);
        });
    }

    /** The bridge takes 5 calls to build. */
    private static void the512th(String call, ToIntFunction<TwoFlows> asked, int want) {
        TwoFlows x = Networks.bridge();
        for (int n = 6; n <= 512; n++) {
            Check.due("call " + n + ": " + call, asked.applyAsInt(x), want);
        }
    }

    // Terms

    private static void terms() {
        Check.test("Terms: places 0 .. 5, a capacity between every two different ones", () -> {
            TwoFlows x = new TwoFlows();
            eachPair((a, b) -> {
                Check.due("set" + at(a, b), x.set(a, b, 1 + a), true);
                Check.due("capacity" + at(a, b), x.capacity(a, b), 1 + a);
            });
        });
        Check.test("Terms: a capacity is 0 .. 20", () -> {
            TwoFlows x = new TwoFlows();
            for (int c = 20; c >= 0; c--) {
                Check.due("set(2, 5, " + c + ")", x.set(2, 5, c), true);
                Check.due("capacity(2, 5) of " + c, x.capacity(2, 5), c);
            }
        });
        Check.test("Terms: a capacity is 0 at first", () -> {
            TwoFlows x = new TwoFlows();
            eachPair((a, b) -> Check.due("capacity" + at(a, b), x.capacity(a, b), 0));
        });
        Check.test("Terms: a capacity is shared by both directions", BoundaryTest::bothDirections);
        Check.test("Terms: a capacity is shared by both goods", () -> {
            sharedByBothGoods("the same way", Networks.shared(6));
            sharedByBothGoods("against each other", Networks.sharedAgainst(6));
        });
        Check.test("Terms: bit i of a side is place i", BoundaryTest::bitForPlace);
        Check.test("Terms: the width counts no capacity inside the side or outside it", () -> {
            for (int side = 0; side < 64; side++) {
                Check.due("width(" + side + ")", aroundSide(side, 0).width(side), 0);
            }
        });
        Check.test("Terms: a side that separates the first good only is at least x", () ->
            eachSide(true, false, new int[][] {{3, 0}, {3, 5}, {0, 6}}, new int[][] {{4, 0}, {4, 5}}));
        Check.test("Terms: a side that separates the second good only is at least y", () ->
            eachSide(false, true, new int[][] {{0, 3}, {5, 3}, {6, 0}}, new int[][] {{0, 4}, {5, 4}}));
        Check.test("Terms: a side that separates both goods is at least x + y", () ->
            eachSide(true, true, new int[][] {{3, 0}, {2, 1}, {1, 2}, {0, 3}},
                new int[][] {{4, 0}, {3, 1}, {2, 2}, {1, 3}, {0, 4}}));
        Check.test("Terms: a side that separates neither good binds neither", () ->
            eachSide(false, false, new int[][] {{20, 0}, {10, 10}, {0, 20}}, new int[][] {}));
    }

    private static void bothDirections() {
        TwoFlows x = new TwoFlows();
        x.set(1, 0, 20);
        Check.due("capacity(0, 1) after set(1, 0, 20)", x.capacity(0, 1), 20);
        Check.due("alone(0) after set(1, 0, 20)", x.alone(0), 20);
        x.set(0, 1, 0);
        Check.due("capacity(1, 0) after set(0, 1, 0)", x.capacity(1, 0), 0);
        Check.due("alone(0) after set(0, 1, 0)", x.alone(0), 0);
        Check.due("width(1) from the one end", Networks.of(0, 5, 9).width(1), 9);
        Check.due("width(32) from the other end", Networks.of(0, 5, 9).width(32), 9);
    }

    private static void sharedByBothGoods(String how, TwoFlows x) {
        for (int first = 0; first <= 7; first++) {
            for (int second = 0; second <= 7; second++) {
                boolean want = first + second <= 6;
                Check.due(how + ": carries" + at(first, second), x.carries(first, second), want);
            }
        }
    }

    private static void bitForPlace() {
        for (int i = 0; i < 6; i++) {
            for (int j = i + 1; j < 6; j++) {
                TwoFlows x = Networks.of(i, j, 1);
                for (int side = 0; side < 64; side++) {
                    int want = (side >> i & 1) == (side >> j & 1) ? 0 : 1;
                    Check.due(i + "-" + j + " alone: width(" + side + ")", x.width(side), want);
                }
            }
        }
    }

    /**
     * 20 between any two places on the same side, and of the others one alone with c: every
     * side but this one and its opposite has a width of 20 or more.
     */
    private static TwoFlows aroundSide(int side, int c) {
        TwoFlows x = new TwoFlows();
        boolean crossed = false;
        for (int a = 0; a < 6; a++) {
            for (int b = a + 1; b < 6; b++) {
                if ((side >> a & 1) == (side >> b & 1)) {
                    x.set(a, b, 20);
                } else if (!crossed) {
                    x.set(a, b, c);
                    crossed = true;
                }
            }
        }
        return x;
    }

    /** Each of the 64 sides that separates just these goods, made the narrowest one with 3. */
    private static void eachSide(boolean first, boolean second, int[][] carried, int[][] notCarried) {
        for (int side = 0; side < 64; side++) {
            boolean ofFirst = (side & 3) == 1 || (side & 3) == 2;
            boolean ofSecond = (side & 12) == 4 || (side & 12) == 8;
            if (ofFirst == first && ofSecond == second) {
                TwoFlows x = aroundSide(side, 3);
                eachCarried("side " + side, x, carried, true);
                eachCarried("side " + side, x, notCarried, false);
            }
        }
    }

    // Promise 1

    private static void newObject() {
        Check.test("Promise 1: all capacities 0, as every call shows", () -> allAre0(new TwoFlows()));
        Check.test("Promise 1: all capacities set back from 20 to 0 are as in a new object", () -> {
            TwoFlows x = Networks.everything(20);
            for (int a = 0; a < 6; a++) {
                for (int b = a + 1; b < 6; b++) {
                    x.set(b, a, 0);
                }
            }
            allAre0(x);
        });
        Check.test("Promise 1: a new object has nothing of the objects before it", () -> {
            TwoFlows before = new TwoFlows();
            TwoFlows other = Networks.everything(20);
            allAre0(before);
            allAre0(new TwoFlows());
            Check.due("the other object", other.capacity(0, 1), 20);
        });
    }

    private static void allAre0(TwoFlows x) {
        for (int side = 0; side < 64; side++) {
            Check.due("all 0: width(" + side + ")", x.width(side), 0);
        }
        eachPair((a, b) -> {
            boolean joinsAGood = a + b == 1 || (a + b == 5 && a * b == 6);
            Check.due("all 0: capacity" + at(a, b), x.capacity(a, b), 0);
            Check.due("all 0: worth" + at(a, b), x.worth(a, b), joinsAGood ? 1 : 0);
            Check.due("all 0: loss" + at(a, b), x.loss(a, b), 0);
        });
        for (int first = 0; first <= 2; first++) {
            for (int second = 0; second <= 2; second++) {
                boolean want = first == 0 && second == 0;
                Check.due("all 0: carries" + at(first, second), x.carries(first, second), want);
                Check.due("all 0: full" + at(first, second), x.full(first, second), want);
            }
        }
        Check.due("all 0: alone(0)", x.alone(0), 0);
        Check.due("all 0: alone(1)", x.alone(1), 0);
        Check.due("all 0: most()", x.most(), 0);
        Check.due("all 0: besides(0)", x.besides(0), 0);
        Check.due("all 0: besides(1)", x.besides(1), -1);
        Check.due("all 0: evenly()", x.evenly(), 0);
        Check.due("all 0: pairs()", x.pairs(), 1);
    }

    // Promise 2

    private static void set() {
        Check.test("Promise 2: the least and the greatest places and capacities are taken", () -> {
            TwoFlows x = new TwoFlows();
            int[][] taken = {{0, 5, 0}, {0, 5, 20}, {5, 0, 0}, {5, 0, 20}, {0, 1, 20}, {4, 5, 20}, {0, 1, 0}};
            for (int[] t : taken) {
                Check.due("set" + at(t[0], t[1]) + " to " + t[2], x.set(t[0], t[1], t[2]), true);
                Check.due("capacity" + at(t[0], t[1]), x.capacity(t[0], t[1]), t[2]);
            }
        });
        Check.test("Promise 2: setting the capacity that stands is taken too", () -> {
            TwoFlows x = Networks.everything(20);
            Check.due("set(0, 1, 20) again", x.set(0, 1, 20), true);
            Check.due("capacity(0, 1)", x.capacity(0, 1), 20);
        });
        Check.test("Promise 2: setting one capacity leaves the 14 others", BoundaryTest::setsOneAlone);
        Check.test("Promise 2: false, changing nothing, when a = b", () -> {
            for (int a = 0; a < 6; a++) {
                for (int c : new int[] {0, 1, 20, -1, 21}) {
                    setRefused(a, a, c);
                }
            }
        });
        Check.test("Promise 2: false, changing nothing, when a is not 0 .. 5", () -> {
            for (int a : NOT_PLACES) {
                setRefused(a, 0, 11);
                setRefused(a, 5, 11);
            }
        });
        Check.test("Promise 2: false, changing nothing, when b is not 0 .. 5", () -> {
            for (int b : NOT_PLACES) {
                setRefused(0, b, 11);
                setRefused(5, b, 11);
            }
        });
        Check.test("Promise 2: false, changing nothing, when neither a nor b is 0 .. 5", () -> {
            for (int a : NOT_PLACES) {
                setRefused(a, a, 11);
                setRefused(a, -1, 11);
                setRefused(6, a, 11);
            }
        });
        Check.test("Promise 2: false, changing nothing, when c is not 0 .. 20", () -> {
            for (int c : NOT_CAPACITIES) {
                setRefused(0, 1, c);
                setRefused(5, 4, c);
            }
        });
    }

    private static void setsOneAlone() {
        eachPair((a, b) -> {
            TwoFlows x = Networks.everything(7);
            x.set(a, b, 20);
            eachPair((p, q) -> {
                boolean same = (p == a && q == b) || (p == b && q == a);
                Check.due("set" + at(a, b) + ": capacity" + at(p, q), x.capacity(p, q), same ? 20 : 7);
            });
        });
    }

    private static void setRefused(int a, int b, int c) {
        String call = "set(" + a + ", " + b + ", " + c + ")";
        leavesAllAsItWas(call, x -> Check.due(call, x.set(a, b, c), false));
    }

    // Promise 3

    private static void capacity() {
        Check.test("Promise 3: the least and the greatest places are answered", () -> {
            TwoFlows x = Networks.of(0, 1, 1, 0, 5, 20, 4, 5, 3);
            int[][] due = {{0, 1, 1}, {1, 0, 1}, {0, 5, 20}, {5, 0, 20}, {4, 5, 3}, {5, 4, 3}, {0, 4, 0}};
            for (int[] d : due) {
                Check.due("capacity" + at(d[0], d[1]), x.capacity(d[0], d[1]), d[2]);
            }
        });
        badPlaces("Promise 3", "capacity", TwoFlows::capacity);
    }

    // Promise 4

    private static void width() {
        Check.test("Promise 4: the least and the greatest side, no place and all places", () -> {
            TwoFlows x = Networks.everything(20);
            Check.due("width(0)", x.width(0), 0);
            Check.due("width(1)", x.width(1), 100);
            Check.due("width(62)", x.width(62), 100);
            Check.due("width(63)", x.width(63), 0);
        });
        Check.test("Promise 4: with all capacities 20 every side has its greatest width", () -> {
            int[] widthOfSize = {0, 100, 160, 180, 160, 100, 0};
            TwoFlows x = Networks.everything(20);
            for (int side = 0; side < 64; side++) {
                int size = Integer.bitCount(side);
                Check.due("width(" + side + ")", x.width(side), widthOfSize[size]);
            }
        });
        Check.test("Promise 4: BAD, changing nothing, when the side is not 0 .. 63", () -> {
            for (int side : NOT_SIDES) {
                badAndNothingElse("width(" + side + ")", x -> x.width(side));
            }
        });
    }

    // Promise 5

    private static void carries() {
        Check.test("Promise 5: 0 and 0 can always be carried", () -> {
            for (Supplier<TwoFlows> made : OBJECTS) {
                Check.due("carries(0, 0)", made.get().carries(0, 0), true);
            }
        });
        Check.test("Promise 5: the greatest amounts with all capacities 20, and 1 more", () -> {
            TwoFlows x = Networks.everything(20);
            eachCarried("all 20", x, new int[][] {{100, 0}, {0, 100}, {100, 60}, {60, 100}, {80, 80}}, true);
            eachCarried("all 20", x, new int[][] {{101, 0}, {0, 101}, {100, 61}, {61, 100}, {101, 59},
                {59, 101}, {81, 80}, {80, 81}}, false);
        });
        Check.test("Promise 5: false, changing nothing, when one is below 0", () -> {
            for (int[] p : BELOW_0) {
                carriesNot(p[0], p[1]);
            }
        });
        Check.test("Promise 5: amounts whose sum doesn't fit into an int can't be carried", () -> {
            for (int[] p : HUGE) {
                carriesNot(p[0], p[1]);
            }
        });
    }

    private static void carriesNot(int first, int second) {
        String call = "carries" + at(first, second);
        leavesAllAsItWas(call, x -> Check.due(call, x.carries(first, second), false));
    }

    private static void eachCarried(String of, TwoFlows x, int[][] amounts, boolean want) {
        for (int[] p : amounts) {
            Check.due(of + ": carries" + at(p[0], p[1]), x.carries(p[0], p[1]), want);
        }
    }

    // Promise 6

    private static void alone() {
        Check.test("Promise 6: what 0 is the first good and what 1 the second", () -> {
            Check.due("apart: alone(0)", Networks.apart().alone(0), 2);
            Check.due("apart: alone(1)", Networks.apart().alone(1), 3);
        });
        Check.test("Promise 6: one good without a way for the other", () -> {
            Check.due("first only: alone(0)", Networks.of(0, 1, 20).alone(0), 20);
            Check.due("first only: alone(1)", Networks.of(0, 1, 20).alone(1), 0);
            Check.due("second only: alone(0)", Networks.of(2, 3, 20).alone(0), 0);
            Check.due("second only: alone(1)", Networks.of(2, 3, 20).alone(1), 20);
        });
        Check.test("Promise 6: a side that separates both goods binds one alone as well", () -> {
            Check.due("shared: alone(0)", Networks.shared(6).alone(0), 6);
            Check.due("shared: alone(1)", Networks.shared(6).alone(1), 6);
        });
        Check.test("Promise 6: the greatest amounts there are, with all capacities 20", () -> {
            Check.due("all 20: alone(0)", Networks.everything(20).alone(0), 100);
            Check.due("all 20: alone(1)", Networks.everything(20).alone(1), 100);
        });
        Check.test("Promise 6: BAD, changing nothing, when what is not 0 or 1", () -> {
            for (int what : NOT_GOODS) {
                badAndNothingElse("alone(" + what + ")", x -> x.alone(what));
            }
        });
    }

    // Promise 7

    private static void most() {
        Check.test("Promise 7: 0 when neither good has a way, whatever the capacities elsewhere", () -> {
            Check.due("no way: most()", Networks.of(0, 2, 20, 1, 3, 20, 4, 5, 20).most(), 0);
            Check.due("all 0: most()", new TwoFlows().most(), 0);
        });
        Check.test("Promise 7: the one good alone when the other has no way", () -> {
            Check.due("first only: most()", Networks.of(0, 1, 20).most(), 20);
            Check.due("second only: most()", Networks.of(2, 3, 20).most(), 20);
        });
        Check.test("Promise 7: the sum of both alone when they don't meet, less when they do", () -> {
            Check.due("apart: most()", Networks.apart().most(), 5);
            Check.due("shared: most()", Networks.shared(20).most(), 20);
            Check.due("shared against: most()", Networks.sharedAgainst(20).most(), 20);
        });
        // {0, 2} is as narrow as any side that separates both: 2 * 4 capacities of 20.
        Check.test("Promise 7: the greatest there is, with all capacities 20", () ->
            Check.due("all 20: most()", Networks.everything(20).most(), 160));
    }

    // Promise 8

    private static void besides() {
        Check.test("Promise 8: with 0 of the first good it is the second good alone", () -> {
            Check.due("bridge: besides(0)", Networks.bridge().besides(0), 4);
            Check.due("all 0: besides(0)", new TwoFlows().besides(0), 0);
            Check.due("second only: besides(0)", Networks.of(2, 3, 20).besides(0), 20);
            Check.due("all 20: besides(0)", Networks.everything(20).besides(0), 100);
        });
        Check.test("Promise 8: with the greatest x that can be carried, even when 0 is left", () -> {
            Check.due("bridge: besides(6)", Networks.bridge().besides(6), 0);
            Check.due("apart: besides(2)", Networks.apart().besides(2), 3);
            Check.due("first only: besides(20)", Networks.of(0, 1, 20).besides(20), 0);
            Check.due("all 20: besides(100)", Networks.everything(20).besides(100), 60);
        });
        Check.test("Promise 8: where x begins to cost the second good", () -> {
            Check.due("bridge: besides(2)", Networks.bridge().besides(2), 4);
            Check.due("bridge: besides(3)", Networks.bridge().besides(3), 3);
            Check.due("all 20: besides(60)", Networks.everything(20).besides(60), 100);
            Check.due("all 20: besides(61)", Networks.everything(20).besides(61), 99);
        });
        Check.test("Promise 8: BAD, changing nothing, when x is below 0", () -> {
            for (int amount : new int[] {-1, -2, -6, -100, MIN, MIN + 1}) {
                badAndNothingElse("besides(" + amount + ")", x -> x.besides(amount));
            }
        });
        Check.test("Promise 8: BAD, changing nothing, when x can't be carried itself", () -> {
            Check.due("all 0: besides(1)", new TwoFlows().besides(1), -1);
            Check.due("apart: besides(3)", Networks.apart().besides(3), -1);
            Check.due("bridge: besides(7)", Networks.bridge().besides(7), -1);
            Check.due("second only: besides(1)", Networks.of(2, 3, 20).besides(1), -1);
            // Far past what both share, too: just past it, 6 - 7 would be BAD by accident.
            for (int amount = 7; amount <= 21; amount++) {
                Check.due("shared 6: besides(" + amount + ")", Networks.shared(6).besides(amount), -1);
            }
            for (int amount : new int[] {101, 102, 161, 1 << 30, MAX - 1, MAX}) {
                badAndNothingElse("besides(" + amount + ")", x -> x.besides(amount));
            }
        });
    }

    // Promise 9

    private static void evenly() {
        Check.test("Promise 9: 0 when one of the goods has no way", () -> {
            Check.due("first only: evenly()", Networks.of(0, 1, 20).evenly(), 0);
            Check.due("second only: evenly()", Networks.of(2, 3, 20).evenly(), 0);
            Check.due("all 0: evenly()", new TwoFlows().evenly(), 0);
        });
        Check.test("Promise 9: bound by the first good, by the second, and by both alike", () -> {
            Check.due("first binds: evenly()", Networks.of(0, 1, 2, 2, 3, 9).evenly(), 2);
            Check.due("second binds: evenly()", Networks.of(0, 1, 9, 2, 3, 4).evenly(), 4);
            Check.due("both bind: evenly()", Networks.of(0, 1, 5, 2, 3, 5).evenly(), 5);
        });
        Check.test("Promise 9: of what both share each has half, and an odd 1 is left over", () -> {
            for (int c = 0; c <= 20; c++) {
                Check.due("shared " + c + ": evenly()", Networks.shared(c).evenly(), c / 2);
            }
        });
        Check.test("Promise 9: the greatest there is, with all capacities 20", () ->
            Check.due("all 20: evenly()", Networks.everything(20).evenly(), 80));
    }

    // Promise 10

    private static void pairs() {
        Check.test("Promise 10: never less than 1, for (0, 0) is a pair", () -> {
            Check.due("all 0: pairs()", new TwoFlows().pairs(), 1);
            Check.due("no way: pairs()", Networks.of(0, 2, 20, 1, 3, 20, 4, 5, 20).pairs(), 1);
        });
        Check.test("Promise 10: the pairs with 0 of a good that has no way", () -> {
            Check.due("first only: pairs()", Networks.of(0, 1, 20).pairs(), 21);
            Check.due("second only: pairs()", Networks.of(2, 3, 20).pairs(), 21);
        });
        Check.test("Promise 10: every pair when the goods don't meet, up to a sum when they do", () -> {
            Check.due("apart: pairs()", Networks.apart().pairs(), 12);
            Check.due("shared 1: pairs()", Networks.shared(1).pairs(), 3);
            Check.due("shared 20: pairs()", Networks.shared(20).pairs(), 231);
        });
        // 101 * 101 pairs less those whose sum is 161 .. 200: 40 + 39 + .. + 1.
        Check.test("Promise 10: the greatest there is, with all capacities 20", () ->
            Check.due("all 20: pairs()", Networks.everything(20).pairs(), 9381));
    }

    // Promise 11

    private static void worth() {
        Check.test("Promise 11: from capacity 0", () -> {
            Check.due("bridge: worth(0, 1)", Networks.bridge().worth(0, 1), 1);
            Check.due("bridge: worth(2, 3)", Networks.bridge().worth(2, 3), 1);
            Check.due("bridge: worth(0, 2)", Networks.bridge().worth(0, 2), 0);
        });
        Check.test("Promise 11: from capacity 20 it asks about 21, which set would refuse", () -> {
            Check.due("first only: worth(0, 1)", Networks.of(0, 1, 20).worth(0, 1), 1);
            Check.due("second only: worth(3, 2)", Networks.of(2, 3, 20).worth(3, 2), 1);
            Check.due("shared 20: worth(0, 4)", Networks.shared(20).worth(0, 4), 0);
        });
        // Of the sides {0, 2}, {0, 3}, {1, 2}, {1, 3} only 0-1 and 2-3 widen all four.
        Check.test("Promise 11: with all capacities 20, each one", () -> {
            TwoFlows x = Networks.everything(20);
            eachPair((a, b) -> {
                boolean joinsAGood = a + b == 1 || (a + b == 5 && a * b == 6);
                Check.due("all 20: worth" + at(a, b), x.worth(a, b), joinsAGood ? 1 : 0);
            });
        });
        Check.test("Promise 11: what would be changes nothing", () -> eachPair((a, b) ->
            leavesAllAsItWas("worth" + at(a, b), x -> x.worth(a, b))));
        badPlaces("Promise 11", "worth", TwoFlows::worth);
    }

    // Promise 12

    private static void loss() {
        Check.test("Promise 12: 0 from capacity 0", () -> {
            Check.due("all 0: loss(0, 1)", new TwoFlows().loss(0, 1), 0);
            Check.due("bridge: loss(0, 1)", Networks.bridge().loss(0, 1), 0);
        });
        Check.test("Promise 12: all of it, when nothing is left to carry", () -> {
            Check.due("first only: loss(0, 1)", Networks.of(0, 1, 20).loss(0, 1), 20);
            Check.due("second only: loss(3, 2)", Networks.of(2, 3, 1).loss(3, 2), 1);
            Check.due("shared 20: loss(4, 5)", Networks.shared(20).loss(4, 5), 20);
        });
        // 4-5 alone is in none of the sides {0, 2}, {0, 3}, {1, 2}, {1, 3}, which bind.
        Check.test("Promise 12: with all capacities 20, each one", () -> {
            TwoFlows x = Networks.everything(20);
            eachPair((a, b) -> Check.due("all 20: loss" + at(a, b), x.loss(a, b), a + b == 9 ? 0 : 20));
        });
        Check.test("Promise 12: what would be changes nothing", () -> eachPair((a, b) ->
            leavesAllAsItWas("loss" + at(a, b), x -> x.loss(a, b))));
        badPlaces("Promise 12", "loss", TwoFlows::loss);
    }

    // Promise 13

    private static void full() {
        Check.test("Promise 13: the corners, and 1 less of either good", () -> {
            eachFull("bridge", Networks.bridge(), new int[][] {{6, 0}, {5, 1}, {2, 4}}, true);
            eachFull("bridge", Networks.bridge(), new int[][] {{5, 0}, {4, 1}, {2, 3}, {1, 4}, {0, 4}}, false);
            eachFull("apart", Networks.apart(), new int[][] {{2, 3}}, true);
            eachFull("apart", Networks.apart(), new int[][] {{1, 3}, {2, 2}, {0, 3}, {2, 0}}, false);
        });
        Check.test("Promise 13: not full when the amounts themselves can't be carried", () -> {
            eachFull("bridge", Networks.bridge(), new int[][] {{7, 0}, {0, 5}, {3, 4}, {1, 5}, {6, 1}}, false);
            eachFull("all 0", new TwoFlows(), new int[][] {{1, 0}, {0, 1}, {1, 1}}, false);
        });
        Check.test("Promise 13: 0 and 0 are full just when nothing can be carried", () -> {
            Check.due("all 0: full(0, 0)", new TwoFlows().full(0, 0), true);
            Check.due("first only: full(0, 0)", Networks.of(0, 1, 1).full(0, 0), false);
            Check.due("second only: full(0, 0)", Networks.of(2, 3, 1).full(0, 0), false);
        });
        Check.test("Promise 13: with all capacities 20", () -> {
            TwoFlows x = Networks.everything(20);
            eachFull("all 20", x, new int[][] {{100, 60}, {60, 100}, {80, 80}}, true);
            eachFull("all 20", x, new int[][] {{100, 59}, {59, 100}, {80, 79}, {101, 60}, {100, 61},
                {60, 101}, {0, 0}, {100, 0}, {0, 100}}, false);
        });
        Check.test("Promise 13: never full, changing nothing, when one is below 0", () -> {
            eachFull("apart", Networks.apart(), new int[][] {{2, -1}, {-1, 3}}, false);
            for (int[] p : BELOW_0) {
                fullNot(p[0], p[1]);
            }
        });
        Check.test("Promise 13: never full when a successor or the sum doesn't fit into an int", () -> {
            for (int[] p : HUGE) {
                fullNot(p[0], p[1]);
            }
        });
    }

    private static void fullNot(int first, int second) {
        String call = "full" + at(first, second);
        leavesAllAsItWas(call, x -> Check.due(call, x.full(first, second), false));
    }

    private static void eachFull(String of, TwoFlows x, int[][] amounts, boolean want) {
        for (int[] p : amounts) {
            Check.due(of + ": full" + at(p[0], p[1]), x.full(p[0], p[1]), want);
        }
    }

    // What several promises share

    private interface Places {
        void take(int a, int b);
    }

    private interface PlacesQuestion {
        int answer(TwoFlows x, int a, int b);
    }

    private static void eachPair(Places each) {
        for (int a = 0; a < 6; a++) {
            for (int b = 0; b < 6; b++) {
                if (a != b) {
                    each.take(a, b);
                }
            }
        }
    }

    private static String at(int a, int b) {
        return "(" + a + ", " + b + ")";
    }

    /** capacity, worth and loss refuse the same places in the same words. */
    private static void badPlaces(String promise, String method, PlacesQuestion asked) {
        Check.test(promise + ": BAD, changing nothing, when a = b", () -> {
            for (int a = 0; a < 6; a++) {
                badPair(method, asked, a, a);
            }
        });
        Check.test(promise + ": BAD, changing nothing, when a is not 0 .. 5", () -> {
            for (int a : NOT_PLACES) {
                badPair(method, asked, a, 0);
                badPair(method, asked, a, 5);
            }
        });
        Check.test(promise + ": BAD, changing nothing, when b is not 0 .. 5", () -> {
            for (int b : NOT_PLACES) {
                badPair(method, asked, 0, b);
                badPair(method, asked, 5, b);
            }
        });
        Check.test(promise + ": BAD, changing nothing, when neither is 0 .. 5", () -> {
            for (int a : NOT_PLACES) {
                badPair(method, asked, a, a);
                badPair(method, asked, a, -1);
                badPair(method, asked, 6, a);
            }
        });
    }

    private static void badPair(String method, PlacesQuestion asked, int a, int b) {
        badAndNothingElse(method + at(a, b), x -> asked.answer(x, a, b));
    }

    private static void badAndNothingElse(String call, ToIntFunction<TwoFlows> asked) {
        leavesAllAsItWas(call, x -> Check.due(call, asked.applyAsInt(x), TwoFlows.BAD));
    }

    /** After the call, an object answers everything as its twin does that never had the call. */
    private static void leavesAllAsItWas(String call, Consumer<TwoFlows> called) {
        for (Supplier<TwoFlows> made : OBJECTS) {
            TwoFlows x = made.get();
            called.accept(x);
            Check.due("what shows after " + call, allThatShows(x), allThatShows(made.get()));
        }
    }

    /** Some 250 calls: with those that build the object, well within its 512. */
    private static String allThatShows(TwoFlows x) {
        StringBuilder all = new StringBuilder();
        eachPair((a, b) -> all.append(x.capacity(a, b)).append(' ')
            .append(x.worth(a, b)).append(' ').append(x.loss(a, b)).append(' '));
        for (int side = 0; side < 64; side++) {
            all.append(x.width(side)).append(' ');
        }
        for (int first = 0; first <= 7; first++) {
            all.append(x.besides(first)).append(' ');
            for (int second = 0; second <= 5; second++) {
                all.append(x.carries(first, second)).append(' ').append(x.full(first, second)).append(' ');
            }
        }
        all.append(x.alone(0)).append(' ').append(x.alone(1)).append(' ').append(x.most()).append(' ');
        return all.append(x.evenly()).append(' ').append(x.pairs()).toString();
    }
}
