/** Promises 20, 21 and 22: common, within and same. */
public final class CompareTest {
    private static final Check.Calls NOTHING = x -> { };

    public static void main(String[] args) {
        overlapping();
        oneInTheOther();
        equalSets();
        oneNumberMakesTheDifference();
        Check.end();
    }

    private static void compare(String name, Check.Calls calls, int a, int b, int common, int within, int same) {
        String pair = "(" + a + ", " + b + ") of " + name;
        Check.dueAfter("common" + pair, calls, x -> x.common(a, b), common);
        Check.dueAfter("within" + pair, calls, x -> x.within(a, b), within);
        Check.dueAfter("same" + pair, calls, x -> x.same(a, b), same);
    }

    private static void overlapping() {
        Check.Calls calls = x -> {
            x.fill(0, 10, 20);
            x.fill(1, 15, 30);
            x.fill(2, 40, 50);
        };
        compare("overlapping sets", calls, 0, 1, 6, 0, 0);
        compare("overlapping sets", calls, 1, 0, 6, 0, 0);
        compare("apart sets", calls, 0, 2, 0, 0, 0);
        compare("apart sets of one size", calls, 2, 0, 0, 0, 0);
    }

    private static void oneInTheOther() {
        Check.Calls calls = x -> {
            x.fill(0, 10, 20);
            x.fill(1, 0, 511);
        };
        compare("a part and the whole", calls, 0, 1, 11, 1, 0);
        compare("the whole and a part", calls, 1, 0, 11, 0, 0);
        compare("an empty set and a part", calls, 2, 0, 0, 1, 0);
        compare("a part and an empty set", calls, 0, 2, 0, 0, 0);
    }

    private static void equalSets() {
        Check.Calls calls = x -> {
            x.fill(0, 0, 511);
            x.flip(2, 0, 511);
        };
        compare("two full sets", calls, 0, 2, 512, 1, 1);
        for (int a = 0; a < 3; a++) {
            compare("a set and itself", calls, a, a, a == 1 ? 0 : 512, 1, 1);
            for (int b = 0; b < 3; b++) {
                compare("a new object", NOTHING, a, b, 0, 1, 1);
            }
        }
    }

    private static void oneNumberMakesTheDifference() {
        for (int number = 0; number < Check.NUMBERS; number++) {
            int n = number;
            Check.Calls calls = x -> {
                x.fill(0, 0, 511);
                x.fill(1, 0, 511);
                x.remove(1, n);
                x.add(2, n);
            };
            compare("all and all but " + n, calls, 0, 1, 511, 0, 0);
            compare("all but " + n + " and all", calls, 1, 0, 511, 1, 0);
            compare("just " + n + " and all", calls, 2, 0, 1, 1, 0);
            compare("just " + n + " and all but it", calls, 2, 1, 0, 0, 0);
        }
    }
}
