import java.util.function.IntPredicate;

/** Promise 9. */
public final class ShiftTest {
    public static void main(String[] args) {
        everyDistance("a full set", (x, s) -> x.fill(s, 0, 511), n -> true);
        everyDistance("every third", (x, s) -> x.sow(s, 0, 256 * 3 + 171), n -> n % 3 == 0);
        everyDistance("both ends", (x, s) -> {
            x.add(s, 0);
            x.add(s, 511);
        }, n -> n == 0 || n == 511);
        everyDistance("an empty set", (x, s) -> { }, n -> false);
        leavesTheRest();
        thereAndBack();
        Check.end();
    }

    private static void everyDistance(String name, Check.Numbers numbers, IntPredicate in) {
        for (int set = 0; set < 3; set++) {
            Check.Calls calls = Check.amongOthers(numbers, set);
            for (int by = -511; by <= 511; by++) {
                oneShift("shift(" + set + ", " + by + ") of " + name, calls, set, by, in);
            }
        }
    }

    private static void oneShift(String what, Check.Calls calls, int set, int by, IntPredicate in) {
        IntPredicate shifted = n -> n - by >= 0 && n - by <= 511 && in.test(n - by);
        int size = 0;
        for (int n = 0; n < Check.NUMBERS; n++) {
            size += shifted.test(n) ? 1 : 0;
        }
        Check.dueAfter(what, calls, x -> x.shift(set, by), size);
        for (int each = 0; each < 3; each++) {
            Check.holds(what, x -> {
                calls.on(x);
                x.shift(set, by);
            }, each, Check.told(each == set ? shifted : in.negate()));
        }
    }

    private static void leavesTheRest() {
        Check.due("state", Check.state(x -> {
            x.fill(0, 500, 511);
            x.fill(1, 500, 511);
            x.fill(2, 0, 11);
            x.write(2);
            x.shift(1, 5);
        }), "500-511 | 505-511 | 0-11 | tape 0-11");
    }

    private static void thereAndBack() {
        RoaringCodec x = new RoaringCodec();
        x.fill(0, 0, 511);
        Check.due("shift(0, 511)", x.shift(0, 511), 1);
        Check.due("next(0, 0)", x.next(0, 0), 511);
        Check.due("shift(0, -511)", x.shift(0, -511), 1);
        Check.due("next(0, 0) after", x.next(0, 0), 0);
        Check.due("shift(0, -1)", x.shift(0, -1), 0);
        Check.due("shift(0, 1) of an empty set", x.shift(0, 1), 0);
    }
}
