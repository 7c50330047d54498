import java.util.function.IntPredicate;

/** Promises 16 to 19: next, previous, gap and runs. */
public final class NeighboursTest {
    private static final int MIN = Edges.MIN;
    private static final int MAX = Edges.MAX;

    public static void main(String[] args) {
        walkAll("an empty set", (x, s) -> { }, n -> false);
        walkAll("a full set", (x, s) -> x.fill(s, 0, 511), n -> true);
        walkAll("both ends", (x, s) -> {
            x.add(s, 0);
            x.add(s, 511);
        }, n -> n == 0 || n == 511);
        walkAll("all but the ends", (x, s) -> x.fill(s, 1, 510), n -> n > 0 && n < 511);
        walkAll("every second", (x, s) -> {
            x.sow(s, 0, 256 * 2 + 200);
            x.sow(s, 400, 256 * 2 + 200);
        }, n -> n % 2 == 0);
        walkAll("three stretches", (x, s) -> {
            x.fill(s, 60, 70);
            x.fill(s, 72, 128);
            x.fill(s, 300, 511);
        }, n -> n >= 60 && n <= 128 && n != 71 || n >= 300);
        runsJoinAndPart();
        runsDoNotReachIntoTheNextSet();
        Check.end();
    }

    private static int first(int from, int by, IntPredicate in, int none) {
        for (int n = from; n >= 0 && n <= 511; n += by) {
            if (in.test(n)) {
                return n;
            }
        }
        return none;
    }

    private static void walkAll(String name, Check.Numbers numbers, IntPredicate in) {
        for (int set = 0; set < 3; set++) {
            walk(name, Check.amongOthers(numbers, set), set, in);
        }
    }

    private static void walk(String name, Check.Calls calls, int s, IntPredicate in) {
        int least = first(0, 1, in, -2);
        int greatest = first(511, -1, in, -2);
        for (int at = -3; at <= 514; at++) {
            int n = at;
            boolean good = n >= 0 && n <= 511;
            int next = n < 0 ? least : first(n, 1, in, -2);
            int previous = n > 511 ? greatest : first(n, -1, in, -2);
            int gap = good ? first(n, 1, in.negate(), -3) : -2;
            Check.dueAfter("next(" + s + ", " + n + ") of " + name, calls, x -> x.next(s, n), next);
            Check.dueAfter("previous(" + s + ", " + n + ") of " + name, calls, x -> x.previous(s, n), previous);
            Check.dueAfter("gap(" + s + ", " + n + ") of " + name, calls, x -> x.gap(s, n), gap);
        }
        Check.dueAfter("next(" + s + ", MIN) of " + name, calls, x -> x.next(s, MIN), least);
        Check.dueAfter("next(" + s + ", MAX) of " + name, calls, x -> x.next(s, MAX), -2);
        Check.dueAfter("previous(" + s + ", MIN) of " + name, calls, x -> x.previous(s, MIN), -2);
        Check.dueAfter("previous(" + s + ", MAX) of " + name, calls, x -> x.previous(s, MAX), greatest);
        Check.dueAfter("gap(" + s + ", MIN) of " + name, calls, x -> x.gap(s, MIN), -2);
        Check.dueAfter("gap(" + s + ", MAX) of " + name, calls, x -> x.gap(s, MAX), -2);
        String told = Check.told(in);
        int runs = told.isEmpty() ? 0 : told.split(" ").length;
        Check.dueAfter("runs(" + s + ") of " + name, calls, x -> x.runs(s), runs);
    }

    private static void runsJoinAndPart() {
        RoaringCodec x = new RoaringCodec();
        Check.due("runs(0) of an empty set", x.runs(0), 0);
        x.add(0, 10);
        Check.due("runs(0) of one number", x.runs(0), 1);
        x.add(0, 12);
        Check.due("runs(0) of two apart", x.runs(0), 2);
        x.add(0, 11);
        Check.due("runs(0) of three neighbours", x.runs(0), 1);
        x.remove(0, 12);
        Check.due("runs(0) of two neighbours", x.runs(0), 1);
        x.add(0, 0);
        x.add(0, 511);
        Check.due("runs(0) with both ends", x.runs(0), 3);
    }

    private static void runsDoNotReachIntoTheNextSet() {
        Check.Calls calls = x -> {
            x.add(0, 511);
            x.add(1, 0);
            x.add(1, 511);
            x.add(2, 0);
        };
        Check.dueAfter("runs(0)", calls, x -> x.runs(0), 1);
        Check.dueAfter("runs(1)", calls, x -> x.runs(1), 2);
        Check.dueAfter("runs(2)", calls, x -> x.runs(2), 1);
        Check.dueAfter("next(0, 512)", calls, x -> x.next(0, 512), -2);
        Check.dueAfter("previous(1, -1)", calls, x -> x.previous(1, -1), -2);
    }
}
