/** The boundary cases of promises 12 to 15. */
public final class CountsEdgesTest {
    private static final int MIN = Edges.MIN;
    private static final int MAX = Edges.MAX;

    public static void main(String[] args) {
        Check.sentence("Promise 12: -1 if set is not good", () -> {
            Edges.takesGoodSetsOnly(0, "has", 0);
            Edges.takesGoodSetsOnly(0, "has", 511);
        });
        Check.sentence("Promise 13: -1 if it is not good", () -> Edges.takesGoodSetsOnly(0, "size"));
        Check.sentence("Promise 14: -1 if set is not good", () -> {
            for (int bound : new int[] {MIN, -1, 0, 511, 512, MAX}) {
                Edges.takesGoodSetsOnly(0, "rank", bound);
            }
        });
        Check.sentence("Promise 15: -1 if set is not good", () -> {
            Edges.takesGoodSetsOnly(-2, "select", 0);
            Edges.takesGoodSetsOnly(-2, "select", 511);
        });
        for (int set = 0; set < 3; set++) {
            has(set);
            size(set);
            rank(set);
            select(set);
        }
        Check.end();
    }

    private static void has(int set) {
        Check.sentence("Promise 12: -2 if number is not good", () -> {
            for (int number : Edges.WRONG_NUMBERS) {
                Edges.refuses(-2, "has", set, number);
            }
            Edges.answers(Edges.full(set), 1, "has", set, 0);
            Edges.answers(Edges.full(set), 1, "has", set, 511);
        });
        Check.sentence("Promise 12: 1 if the number is in the set", () -> {
            for (int number : Edges.NUMBERS) {
                Edges.answers(Edges.full(set), 1, "has", set, number);
                Edges.answers(Edges.just(set, number), 1, "has", set, number);
            }
        });
        Check.sentence("Promise 12: otherwise 0", () -> {
            for (int number : Edges.NUMBERS) {
                Edges.answers(Edges.NEW, 0, "has", set, number);
                Edges.answers(Edges.allBut(set, number), 0, "has", set, number);
                Edges.answers(Edges.full((set + 1) % 3), 0, "has", set, number);
                Edges.answers(Edges.full((set + 2) % 3), 0, "has", set, number);
            }
        });
    }

    private static void size(int set) {
        Check.sentence("Promise 13: How many numbers the set has", () -> {
            Edges.answers(Edges.NEW, 0, "size", set);
            Edges.answers(Edges.full(set), 512, "size", set);
            Edges.answers(Edges.full((set + 1) % 3), 0, "size", set);
            Edges.answers(Edges.full((set + 2) % 3), 0, "size", set);
            for (int number : new int[] {0, 511}) {
                Edges.answers(Edges.just(set, number), 1, "size", set);
                Edges.answers(Edges.allBut(set, number), 511, "size", set);
            }
        });
    }

    private static void rank(int set) {
        Check.sentence("Promise 14: How many numbers of the set are less than bound", () -> {
            int[] bounds = {0, 1, 2, 510, 511, 512};
            int[] ofEnds = {0, 1, 1, 1, 1, 2};
            for (int i = 0; i < bounds.length; i++) {
                Edges.answers(Edges.NEW, 0, "rank", set, bounds[i]);
                Edges.answers(Edges.full(set), bounds[i], "rank", set, bounds[i]);
                Edges.answers(Edges.just(set, 0, 511), ofEnds[i], "rank", set, bounds[i]);
                Edges.answers(Edges.full((set + 1) % 3), 0, "rank", set, bounds[i]);
            }
            Edges.answers(Edges.just(set, 300), 0, "rank", set, 299);
            Edges.answers(Edges.just(set, 300), 0, "rank", set, 300);
            Edges.answers(Edges.just(set, 300), 1, "rank", set, 301);
        });
        Check.sentence("Promise 14: bound (any int)", () -> {
            for (int bound : new int[] {MIN, MIN + 1, -513, -512, -511, -1}) {
                Edges.answers(Edges.full(set), 0, "rank", set, bound);
                Edges.answers(Edges.NEW, 0, "rank", set, bound);
            }
            for (int bound : new int[] {512, 513, 1024, 65536, MAX - 1, MAX}) {
                Edges.answers(Edges.full(set), 512, "rank", set, bound);
                Edges.answers(Edges.allBut(set, 511), 511, "rank", set, bound);
                Edges.answers(Edges.NEW, 0, "rank", set, bound);
                Edges.answers(Edges.full((set + 1) % 3), 0, "rank", set, bound);
            }
        });
    }

    private static void select(int set) {
        Check.sentence("Promise 15: The k-th least number of the set (0 for the least)", () -> {
            Edges.answers(Edges.full(set), 0, "select", set, 0);
            Edges.answers(Edges.full(set), 1, "select", set, 1);
            Edges.answers(Edges.full(set), 511, "select", set, 511);
            Edges.answers(Edges.just(set, 511), 511, "select", set, 0);
            Edges.answers(Edges.just(set, 0), 0, "select", set, 0);
            Edges.answers(Edges.just(set, 0, 300, 511), 300, "select", set, 1);
            Edges.answers(Edges.just(set, 0, 300, 511), 511, "select", set, 2);
            Edges.answers(Edges.allBut(set, 0), 1, "select", set, 0);
            Edges.answers(Edges.allBut(set, 511), 510, "select", set, 510);
        });
        Check.sentence("Promise 15: -2 if k is not in 0 .. size-1", () -> {
            for (int k : new int[] {MIN, MIN + 1, -512, -2, -1, 512, 513, 1024, MAX}) {
                Edges.refuses(-2, "select", set, k);
            }
            for (int k : new int[] {0, 1, 511}) {
                Edges.answers(Edges.NEW, -2, "select", set, k);
                Edges.answers(Edges.full((set + 1) % 3), -2, "select", set, k);
            }
            Edges.answers(Edges.just(set, 0), -2, "select", set, 1);
            Edges.answers(Edges.just(set, 511), -2, "select", set, 1);
            Edges.answers(Edges.just(set, 511), -2, "select", set, 511);
            Edges.answers(Edges.just(set, 0, 300, 511), -2, "select", set, 3);
            Edges.answers(Edges.just(set, 0, 300, 511), -2, "select", set, -1);
            Edges.answers(Edges.allBut(set, 0), 511, "select", set, 510);
            Edges.answers(Edges.allBut(set, 0), -2, "select", set, 511);
        });
    }
}
