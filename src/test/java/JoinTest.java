/** Promise 8. */
public final class JoinTest {
    public static void main(String[] args) {
        everyKindAndPair();
        Check.end();
    }

    // Of the three sets each has one part alone, one with each other set, and one with both.
    private static void three(RoaringCodec x) {
        x.fill(0, 0, 259);
        x.fill(1, 100, 300);
        x.sow(2, 1, 256 * 4 + 128);
    }

    private static boolean inThree(int set, int n) {
        return set == 0 ? n <= 259 : set == 1 ? n >= 100 && n <= 300 : n % 4 == 1;
    }

    private static boolean joined(int kind, boolean a, boolean b) {
        boolean[] answers = {a & b, a | b, a ^ b, a & !b};
        return answers[kind];
    }

    private static void everyKindAndPair() {
        for (int kind = 0; kind < 4; kind++) {
            for (int a = 0; a < 3; a++) {
                for (int b = 0; b < 3; b++) {
                    oneJoin(kind, a, b);
                }
            }
        }
    }

    private static void oneJoin(int kind, int a, int b) {
        String what = "join(" + kind + ", " + a + ", " + b + ")";
        int size = 0;
        for (int n = 0; n < Check.NUMBERS; n++) {
            size += joined(kind, inThree(a, n), inThree(b, n)) ? 1 : 0;
        }
        Check.dueAfter(what, JoinTest::three, x -> x.join(kind, a, b), size);
        for (int set = 0; set < 3; set++) {
            int s = set;
            String want = Check.told(n -> s == a ? joined(kind, inThree(a, n), inThree(b, n)) : inThree(s, n));
            Check.holds(what, x -> {
                three(x);
                x.join(kind, a, b);
            }, s, want);
        }
    }
}
