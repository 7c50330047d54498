/** Promise 7. */
public final class SowTest {
    public static void main(String[] args) {
        sows();
        Check.sentence("Promise 7: rule is 256 * step + count", SowTest::everyStepAndCount);
        Check.end();
    }

    private static int rule(int step, int count) {
        return 256 * step + count;
    }

    private static void sows() {
        RoaringCodec x = new RoaringCodec();
        Check.due("sow(0, 3, 5 by 30)", x.sow(0, 3, rule(5, 30)), 30);
        Check.due("sow(0, 3, 5 by 31)", x.sow(0, 3, rule(5, 31)), 31);
        Check.due("sow(0, 4, 5 by 2)", x.sow(0, 4, rule(5, 2)), 33);
        Check.due("sow(1, 0, 1 by 200)", x.sow(1, 0, rule(1, 200)), 200);
        Check.due("sow(1, 511, 100 by 200)", x.sow(1, 511, rule(100, 200)), 201);
        Check.due("sow(2, 0, 100 by 1)", x.sow(2, 0, rule(100, 1)), 1);
        Check.due("state", Check.state(y -> {
            y.fill(1, 5, 7);
            y.sow(1, 1, rule(3, 4));
            y.sow(2, 411, rule(100, 3));
            y.sow(0, 11, rule(100, 200));
        }), "11 111 211 311 411 511 | 1 4-7 10 | 411 511 | tape empty");
        Check.holds("sow(0, 12, 100 by 6)", y -> y.sow(0, 12, rule(100, 6)), 0, "12 112 212 312 412");
    }

    private static void everyStepAndCount() {
        for (int step = 1; step <= 100; step++) {
            for (int count = 1; count <= 200; count++) {
                int first = (step * 7 + count * 31) % 512;
                int room = (511 - first) / step + 1;
                int due = Math.min(count, room);
                RoaringCodec x = new RoaringCodec();
                String what = "sow(2, " + first + ", " + step + " by " + count + ")";
                Check.due(what, x.sow(2, first, rule(step, count)), due);
                Check.due("least of " + what, x.next(2, 0), first);
                Check.due("greatest of " + what, x.previous(2, 511), first + (due - 1) * step);
                Check.due("others beside " + what, x.size(0) + x.size(1), 0);
            }
        }
    }
}
