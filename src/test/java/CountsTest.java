/** Promises 12 to 15: has, size, rank and select. */
public final class CountsTest {
    private static final int MIN = Edges.MIN;
    private static final int MAX = Edges.MAX;

    public static void main(String[] args) {
        hasAndSize();
        ranks();
        selects();
        Check.end();
    }

    private static void some(RoaringCodec x) {
        x.fill(0, 0, 511);
        x.sow(1, 0, 256 * 3 + 171);
        x.fill(2, 100, 130);
        x.add(2, 511);
    }

    private static boolean inSome(int set, int n) {
        return set == 0 || (set == 1 ? n % 3 == 0 : n >= 100 && n <= 130 || n == 511);
    }

    private static void hasAndSize() {
        int[] sizes = {512, 171, 32};
        for (int set = 0; set < 3; set++) {
            int s = set;
            Check.dueAfter("size(" + s + ")", CountsTest::some, x -> x.size(s), sizes[s]);
            Check.dueAfter("size(" + s + ") of a new object", x -> { }, x -> x.size(s), 0);
            for (int number = 0; number < Check.NUMBERS; number++) {
                int n = number;
                String what = "has(" + s + ", " + n + ")";
                Check.dueAfter(what, CountsTest::some, x -> x.has(s, n), inSome(s, n) ? 1 : 0);
                Check.dueAfter(what + " of a new object", x -> { }, x -> x.has(s, n), 0);
            }
        }
    }

    private static void ranks() {
        for (int set = 0; set < 3; set++) {
            int s = set;
            int less = 0;
            for (int bound = -3; bound <= 515; bound++) {
                int b = bound;
                Check.dueAfter("rank(" + s + ", " + b + ")", CountsTest::some, x -> x.rank(s, b), less);
                less += b >= 0 && b <= 511 && inSome(s, b) ? 1 : 0;
            }
            int all = less;
            Check.dueAfter("rank(" + s + ", MIN)", CountsTest::some, x -> x.rank(s, MIN), 0);
            Check.dueAfter("rank(" + s + ", MAX)", CountsTest::some, x -> x.rank(s, MAX), all);
            Check.dueAfter("rank(" + s + ", MAX) of a new object", x -> { }, x -> x.rank(s, MAX), 0);
        }
    }

    private static void selects() {
        for (int set = 0; set < 3; set++) {
            int s = set;
            int k = 0;
            for (int number = 0; number < Check.NUMBERS; number++) {
                if (inSome(s, number)) {
                    int place = k;
                    Check.dueAfter("select(" + s + ", " + k + ")", CountsTest::some, x -> x.select(s, place), number);
                    k++;
                }
            }
            for (int wrong : new int[] {MIN, -2, -1, k, k + 1, 512, 513, MAX}) {
                Check.dueAfter("select(" + s + ", " + wrong + ")", CountsTest::some, x -> x.select(s, wrong), -2);
            }
            Check.dueAfter("select(" + s + ", 0) of a new object", x -> { }, x -> x.select(s, 0), -2);
        }
    }
}
