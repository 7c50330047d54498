/** The boundary cases of promise 9. */
public final class ShiftEdgesTest {
    public static void main(String[] args) {
        Check.sentence("Promise 9: -1 if set is not good", () -> {
            Edges.takesGoodSetsOnly(0, "shift", 0);
            Edges.takesGoodSetsOnly(0, "shift", 511);
            Edges.takesGoodSetsOnly(0, "shift", -511);
        });
        for (int set = 0; set < 3; set++) {
            wrongDistance(set);
            dropped(set);
            becomes(set);
            answersTheSize(set);
        }
        Check.end();
    }

    private static void shifts(Check.Calls before, int set, int by, int want, String numbers) {
        Edges.makes(before, want, Edges.only(set, numbers), "shift", set, by);
    }

    private static void wrongDistance(int set) {
        Check.sentence("Promise 9: -2 if by is not in -511 .. 511", () -> {
            shifts(Edges.full(set), set, -511, 1, "0");
            shifts(Edges.full(set), set, 511, 1, "511");
            for (int by : new int[] {Edges.MIN, Edges.MIN + 1, -1024, -513, -512, 512, 513, 1024, Edges.MAX}) {
                Edges.refuses(-2, "shift", set, by);
            }
        });
    }

    // The other sets are empty and stay so: what is dropped must not come round, nor into another set.
    private static void dropped(int set) {
        Check.sentence("Promise 9: those that would not be 0 .. 511 are dropped", () -> {
            shifts(Edges.just(set, 511), set, 1, 0, "");
            shifts(Edges.just(set, 510), set, 1, 1, "511");
            shifts(Edges.just(set, 0), set, -1, 0, "");
            shifts(Edges.just(set, 1), set, -1, 1, "0");
            shifts(Edges.just(set, 0, 511), set, 1, 1, "1");
            shifts(Edges.just(set, 0, 511), set, -1, 1, "510");
            shifts(Edges.just(set, 0, 1, 511), set, 511, 1, "511");
            shifts(Edges.just(set, 0, 510, 511), set, -511, 1, "0");
            shifts(Edges.full(set), set, 1, 511, "1-511");
            shifts(Edges.full(set), set, -1, 511, "0-510");
            shifts(Edges.full(set), set, 256, 256, "256-511");
            shifts(Edges.full(set), set, -256, 256, "0-255");
            amongFullSets(set);
        });
        Check.sentence("Promise 9: what was dropped does not come back", () -> {
            shifts(Edges.both(Edges.full(set), x -> x.shift(set, 1)), set, -1, 511, "0-510");
            shifts(Edges.both(Edges.full(set), x -> x.shift(set, -1)), set, 1, 511, "1-511");
            shifts(Edges.both(Edges.full(set), x -> x.shift(set, 511)), set, -511, 1, "0");
            shifts(Edges.both(Edges.full(set), x -> x.shift(set, -511)), set, 511, 1, "511");
        });
    }

    /** Nothing comes in from the sets before and after. */
    private static void amongFullSets(int set) {
        for (int by : new int[] {-511, -1, 1, 511}) {
            int kept = by > 0 ? 511 : 0;
            Check.Calls before = Edges.both(Edges.FULL, x -> {
                x.clear(set, 0, 511);
                x.add(set, kept - by);
            });
            StringBuilder state = new StringBuilder();
            for (int each = 0; each < 3; each++) {
                state.append(each == set ? "" + kept : Edges.ALL).append(" | ");
            }
            Edges.makes(before, 1, state + "tape 0-511", "shift", set, by);
        }
    }

    private static void becomes(int set) {
        Check.sentence("Promise 9: Every number x of a set becomes x + by", () -> {
            shifts(Edges.NEW, set, 0, 0, "");
            shifts(Edges.full(set), set, 0, 512, Edges.ALL);
            shifts(Edges.just(set, 0, 300, 511), set, 0, 3, "0 300 511");
            shifts(Edges.just(set, 0), set, 511, 1, "511");
            shifts(Edges.just(set, 511), set, -511, 1, "0");
            shifts(x -> x.fill(set, 0, 500), set, 11, 501, "11-511");
            shifts(x -> x.fill(set, 11, 511), set, -11, 501, "0-500");
        });
    }

    private static void answersTheSize(int set) {
        Check.sentence("Promise 9: otherwise answers how many numbers the set has now", () -> {
            shifts(Edges.NEW, set, 511, 0, "");
            shifts(Edges.NEW, set, -511, 0, "");
            shifts(Edges.just(set, 0, 10, 20, 511), set, 15, 3, "15 25 35");
            shifts(Edges.just(set, 0, 10, 20, 511), set, -15, 2, "5 496");
            shifts(Edges.allBut(set, 0), set, 1, 510, "2-511");
            shifts(Edges.allBut(set, 511), set, 1, 511, "1-511");
        });
    }
}
