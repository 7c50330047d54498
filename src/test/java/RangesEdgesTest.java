/** The boundary cases of promises 4, 5 and 6. */
public final class RangesEdgesTest {
    private static final int[][] RANGES = {
        {0, 0}, {511, 511}, {0, 511}, {0, 510}, {1, 511}, {1, 510}, {63, 64}, {255, 256}, {300, 300}};

    public static void main(String[] args) {
        refusals("Promise 4", "fill", 512);
        refusals("Promise 5", "clear", 0);
        refusals("Promise 6", "flip", 512);
        for (int set = 0; set < 3; set++) {
            fill(set);
            clear(set);
            flip(set);
        }
        Check.end();
    }

    private static void refusals(String promise, String name, int wholeOfANewSet) {
        Check.sentence(promise + ": -1 if set is not good", () -> {
            Edges.takesGoodSetsOnly(wholeOfANewSet, name, 0, 511);
            Edges.takesGoodSetsOnly(wholeOfANewSet / 512, name, 0, 0);
            Edges.takesGoodSetsOnly(wholeOfANewSet / 512, name, 511, 511);
        });
        Check.sentence(promise + ": -2 if the range is not good", () -> {
            for (int set = 0; set < 3; set++) {
                for (int[] range : Edges.WRONG_RANGES) {
                    Edges.refuses(-2, name, set, range[0], range[1]);
                }
            }
        });
    }

    private static String inside(int[] range) {
        return Check.told(n -> n >= range[0] && n <= range[1]);
    }

    private static String outside(int[] range) {
        return Check.told(n -> n < range[0] || n > range[1]);
    }

    private static int length(int[] range) {
        return range[1] - range[0] + 1;
    }

    private static Check.Calls filled(int set, int[] range) {
        return x -> x.fill(set, range[0], range[1]);
    }

    private static Check.Calls cleared(int set, int[] range) {
        return x -> {
            x.fill(set, 0, 511);
            x.clear(set, range[0], range[1]);
        };
    }

    private static void fill(int set) {
        Check.sentence("Promise 4: Puts all numbers of the range into a set", () -> {
            for (int[] range : RANGES) {
                Edges.makes(Edges.NEW, length(range), Edges.only(set, inside(range)), "fill", set, range[0], range[1]);
            }
        });
        Check.sentence("Promise 4: otherwise answers how many were not in it before", () -> {
            String all = Edges.only(set, Edges.ALL);
            for (int[] range : RANGES) {
                Edges.makes(Edges.full(set), 0, all, "fill", set, range[0], range[1]);
                Edges.makes(cleared(set, range), length(range), all, "fill", set, range[0], range[1]);
                Edges.makes(filled(set, range), 512 - length(range), all, "fill", set, 0, 511);
                Edges.makes(Edges.allBut(set, range[0]), 1, all, "fill", set, range[0], range[1]);
                Edges.makes(Edges.allBut(set, range[1]), 1, all, "fill", set, range[0], range[1]);
            }
        });
    }

    private static void clear(int set) {
        Check.sentence("Promise 5: Takes all numbers of the range out of a set", () -> {
            for (int[] range : RANGES) {
                String rest = Edges.only(set, outside(range));
                Edges.makes(Edges.full(set), length(range), rest, "clear", set, range[0], range[1]);
            }
        });
        Check.sentence("Promise 5: otherwise answers how many were in it before", () -> {
            String none = Edges.only(set, "");
            for (int[] range : RANGES) {
                Edges.makes(Edges.NEW, 0, none, "clear", set, range[0], range[1]);
                Edges.makes(filled(set, range), length(range), none, "clear", set, range[0], range[1]);
                Edges.makes(cleared(set, range), 512 - length(range), none, "clear", set, 0, 511);
                Edges.makes(Edges.just(set, range[0]), 1, none, "clear", set, range[0], range[1]);
                Edges.makes(Edges.just(set, range[1]), 1, none, "clear", set, range[0], range[1]);
            }
        });
    }

    private static void flip(int set) {
        Check.sentence("Promise 6: the numbers that are not in a set come into it", () -> {
            for (int[] range : RANGES) {
                Edges.makes(Edges.NEW, length(range), Edges.only(set, inside(range)), "flip", set, range[0], range[1]);
                Edges.makes(cleared(set, range), 512, Edges.only(set, Edges.ALL), "flip", set, range[0], range[1]);
            }
        });
        Check.sentence("Promise 6: and those that are go out", () -> {
            for (int[] range : RANGES) {
                String rest = Edges.only(set, outside(range));
                Edges.makes(Edges.full(set), 512 - length(range), rest, "flip", set, range[0], range[1]);
                Edges.makes(filled(set, range), 0, Edges.only(set, ""), "flip", set, range[0], range[1]);
            }
        });
        Check.sentence("Promise 6: otherwise answers how many numbers the set has now", () -> {
            Edges.makes(Edges.just(set, 0, 511), 512, Edges.only(set, Edges.ALL), "flip", set, 1, 510);
            Edges.makes(Edges.just(set, 0, 511), 510, Edges.only(set, "1-510"), "flip", set, 0, 511);
            Edges.makes(Edges.just(set, 0, 100, 511), 4, Edges.only(set, "0 99 101 511"), "flip", set, 99, 101);
            Edges.makes(Edges.just(set, 0, 511), 1, Edges.only(set, "511"), "flip", set, 0, 0);
            Edges.makes(Edges.just(set, 0, 511), 1, Edges.only(set, "0"), "flip", set, 511, 511);
        });
    }
}
