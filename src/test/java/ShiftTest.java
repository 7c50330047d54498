import java.util.function.IntPredicate;

/** Promise 9. */
public final class ShiftTest {
    public static void main(String[] args) {
        everyDistance("a full set", x -> x.fill(1, 0, 511), n -> true);
        everyDistance("every third", x -> {
            x.sow(1, 0, 256 * 3 + 171);
            x.fill(0, 5, 6);
        }, n -> n % 3 == 0);
        everyDistance("both ends", x -> {
            x.add(1, 0);
            x.add(1, 511);
        }, n -> n == 0 || n == 511);
        everyDistance("an empty set", x -> { }, n -> false);
        leavesTheRest();
        thereAndBack();
        Check.end();
    }

    private static void everyDistance(String name, Check.Calls calls, IntPredicate in) {
        for (int distance = -511; distance <= 511; distance++) {
            int by = distance;
            IntPredicate shifted = n -> n - by >= 0 && n - by <= 511 && in.test(n - by);
            int size = 0;
            for (int n = 0; n < Check.NUMBERS; n++) {
                size += shifted.test(n) ? 1 : 0;
            }
            String what = "shift(1, " + by + ") of " + name;
            Check.dueAfter(what, calls, x -> x.shift(1, by), size);
            Check.holds(what, x -> {
                calls.on(x);
                x.shift(1, by);
            }, 1, Check.told(shifted));
        }
    }

    private static void leavesTheRest() {
        Check.due("state", Check.state(x -> {
            x.fill(0, 500, 511);
            x.fill(1, 500, 511);
            x.fill(2, 0, 11);
            x.write(2);
            x.shift(1, 5);
        }), "500-511 | 505-511 | 0-11 | tape 0-11");
    }

    private static void thereAndBack() {
        RoaringCodec x = new RoaringCodec();
        x.fill(0, 0, 511);
        Check.due("shift(0, 511)", x.shift(0, 511), 1);
        Check.due("next(0, 0)", x.next(0, 0), 511);
        Check.due("shift(0, -511)", x.shift(0, -511), 1);
        Check.due("next(0, 0) after", x.next(0, 0), 0);
        Check.due("shift(0, -1)", x.shift(0, -1), 0);
        Check.due("shift(0, 1) of an empty set", x.shift(0, 1), 0);
    }
}
