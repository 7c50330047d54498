/** The boundary cases of promises 20, 21 and 22. */
public final class CompareEdgesTest {
    public static void main(String[] args) {
        Check.sentence("Promise 20: -1 if a or b is not good", () -> Edges.takesGoodPairsOnly(0, -1, "common"));
        Check.sentence("Promise 21: -1 if a or b is not good", () -> Edges.takesGoodPairsOnly(1, -1, "within"));
        Check.sentence("Promise 22: -1 if a or b is not good", () -> Edges.takesGoodPairsOnly(1, -1, "same"));
        for (int a = 0; a < 3; a++) {
            theSameSet(a);
            for (int b = 0; b < 3; b++) {
                if (a != b) {
                    common(a, b);
                    within(a, b);
                    same(a, b);
                }
            }
        }
        Check.end();
    }

    private static Check.Calls two(Check.Calls ofA, Check.Calls ofB) {
        return Edges.both(ofA, ofB);
    }

    private static void common(int a, int b) {
        Check.sentence("Promise 20: How many numbers both sets have", () -> {
            Edges.answers(Edges.NEW, 0, "common", a, b);
            Edges.answers(Edges.full(a), 0, "common", a, b);
            Edges.answers(Edges.full(b), 0, "common", a, b);
            Edges.answers(two(Edges.full(a), Edges.full(b)), 512, "common", a, b);
            for (int n : Edges.NUMBERS) {
                Edges.answers(two(Edges.just(a, n), Edges.full(b)), 1, "common", a, b);
                Edges.answers(two(Edges.full(a), Edges.just(b, n)), 1, "common", a, b);
                Edges.answers(two(Edges.just(a, n), Edges.allBut(b, n)), 0, "common", a, b);
                Edges.answers(two(Edges.allBut(a, n), Edges.full(b)), 511, "common", a, b);
            }
        });
    }

    private static void within(int a, int b) {
        Check.sentence("Promise 21: 1 if every number of a is in b", () -> {
            Edges.answers(Edges.NEW, 1, "within", a, b);
            Edges.answers(Edges.full(b), 1, "within", a, b);
            Edges.answers(two(Edges.full(a), Edges.full(b)), 1, "within", a, b);
            for (int n : Edges.NUMBERS) {
                Edges.answers(two(Edges.just(a, n), Edges.just(b, n)), 1, "within", a, b);
                Edges.answers(two(Edges.just(a, n), Edges.full(b)), 1, "within", a, b);
                Edges.answers(two(Edges.allBut(a, n), Edges.full(b)), 1, "within", a, b);
            }
        });
        Check.sentence("Promise 21: otherwise 0", () -> {
            Edges.answers(Edges.full(a), 0, "within", a, b);
            for (int n : Edges.NUMBERS) {
                Edges.answers(Edges.just(a, n), 0, "within", a, b);
                Edges.answers(two(Edges.full(a), Edges.allBut(b, n)), 0, "within", a, b);
                Edges.answers(two(Edges.just(a, n), Edges.allBut(b, n)), 0, "within", a, b);
            }
        });
    }

    private static void same(int a, int b) {
        Check.sentence("Promise 22: 1 if the two sets have just the same numbers", () -> {
            Edges.answers(Edges.NEW, 1, "same", a, b);
            Edges.answers(two(Edges.full(a), Edges.full(b)), 1, "same", a, b);
            for (int n : Edges.NUMBERS) {
                Edges.answers(two(Edges.just(a, n), Edges.just(b, n)), 1, "same", a, b);
                Edges.answers(two(Edges.allBut(a, n), Edges.allBut(b, n)), 1, "same", a, b);
            }
        });
        Check.sentence("Promise 22: otherwise 0", () -> {
            Edges.answers(Edges.full(a), 0, "same", a, b);
            Edges.answers(Edges.full(b), 0, "same", a, b);
            Edges.answers(two(Edges.just(a, 0), Edges.just(b, 511)), 0, "same", a, b);
            Edges.answers(two(Edges.just(a, 0, 255, 511), Edges.just(b, 0, 256, 511)), 0, "same", a, b);
            Edges.answers(two(Edges.allBut(a, 0), Edges.allBut(b, 511)), 0, "same", a, b);
            for (int n : Edges.NUMBERS) {
                Edges.answers(Edges.just(a, n), 0, "same", a, b);
                Edges.answers(Edges.just(b, n), 0, "same", a, b);
                Edges.answers(two(Edges.full(a), Edges.allBut(b, n)), 0, "same", a, b);
                Edges.answers(two(Edges.allBut(a, n), Edges.full(b)), 0, "same", a, b);
            }
        });
    }

    // Only sets that are not good are refused, so a set can be compared with itself.
    private static void theSameSet(int set) {
        int[] sizes = {0, 512, 2};
        Check.Calls[] sets = {Edges.NEW, Edges.full(set), Edges.just(set, 0, 511)};
        for (int i = 0; i < sets.length; i++) {
            int size = sizes[i];
            Check.Calls before = sets[i];
            Check.sentence("Promise 20: a and b the same set", () -> Edges.answers(before, size, "common", set, set));
            Check.sentence("Promise 21: a and b the same set", () -> Edges.answers(before, 1, "within", set, set));
            Check.sentence("Promise 22: a and b the same set", () -> Edges.answers(before, 1, "same", set, set));
        }
    }
}
