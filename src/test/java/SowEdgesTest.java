/** The boundary cases of promise 7. */
public final class SowEdgesTest {
    private static final int MIN = Edges.MIN;
    private static final int MAX = Edges.MAX;

    public static void main(String[] args) {
        Check.sentence("Promise 7: -1 if set is not good", () -> {
            Edges.takesGoodSetsOnly(1, "sow", 0, rule(1, 1));
            Edges.takesGoodSetsOnly(1, "sow", 511, rule(100, 200));
        });
        for (int set = 0; set < 3; set++) {
            wrongFirst(set);
            wrongStep(set);
            negativeRule(set);
            wrongCount(set);
            stepAndCountOfARule(set);
            countOfThem(set);
            atMost511(set);
            answersTheSize(set);
        }
        Check.end();
    }

    private static int rule(int step, int count) {
        return 256 * step + count;
    }

    private static void sows(Check.Calls before, int set, int first, int rule, int want, String numbers) {
        Edges.makes(before, want, Edges.only(set, numbers), "sow", set, first, rule);
    }

    private static void wrongFirst(int set) {
        Check.sentence("Promise 7: -2 if first is not good", () -> {
            sows(Edges.NEW, set, 0, rule(1, 1), 1, "0");
            sows(Edges.NEW, set, 511, rule(1, 1), 1, "511");
            for (int first : Edges.WRONG_NUMBERS) {
                Edges.refuses(-2, "sow", set, first, rule(1, 1));
                Edges.refuses(-2, "sow", set, first, rule(100, 200));
            }
        });
    }

    private static void wrongStep(int set) {
        Check.sentence("Promise 7: -3 if step is not in 1 .. 100", () -> {
            sows(Edges.NEW, set, 0, rule(1, 2), 2, "0-1");
            sows(Edges.NEW, set, 0, rule(100, 2), 2, "0 100");
            int[] wrongSteps = {0, 101, 102, 128, 200, 255, 256, 257, 356, 65536, 65537, MAX / 256};
            for (int step : wrongSteps) {
                Edges.refuses(-3, "sow", set, 0, rule(step, 1));
                Edges.refuses(-3, "sow", set, 511, rule(step, 200));
            }
            Edges.refuses(-3, "sow", set, 0, MAX);
        });
    }

    private static void negativeRule(int set) {
        Check.sentence("Promise 7: a negative rule is the case of -3", () -> {
            int[] negative = {-1, -2, -100, -255, -256, -257, -512, -rule(1, 1), -rule(5, 30), -rule(100, 200),
                -rule(101, 1), -65536 + rule(1, 1), MIN + rule(1, 1), MIN + rule(1, 0), MIN + 1, MIN};
            for (int rule : negative) {
                Edges.refuses(-3, "sow", set, 0, rule);
                Edges.refuses(-3, "sow", set, 511, rule);
            }
            sows(Edges.NEW, set, 0, rule(1, 1), 1, "0");
        });
    }

    private static void wrongCount(int set) {
        Check.sentence("Promise 7: -4 if count is not in 1 .. 200", () -> {
            sows(Edges.NEW, set, 0, rule(1, 1), 1, "0");
            sows(Edges.NEW, set, 0, rule(1, 200), 200, "0-199");
            for (int count : new int[] {0, 201, 202, 255}) {
                Edges.refuses(-4, "sow", set, 0, rule(1, count));
                Edges.refuses(-4, "sow", set, 0, rule(50, count));
                Edges.refuses(-4, "sow", set, 511, rule(100, count));
            }
        });
    }

    private static void stepAndCountOfARule(int set) {
        Check.sentence("Promise 7: step is rule / 256, count the rest", () -> {
            Edges.refuses(-3, "sow", set, 7, 0);
            Edges.refuses(-3, "sow", set, 7, 255);
            Edges.refuses(-4, "sow", set, 7, 256);
            sows(Edges.NEW, set, 7, 257, 1, "7");
            sows(Edges.NEW, set, 7, 456, 200, "7-206");
            Edges.refuses(-4, "sow", set, 7, 457);
            Edges.refuses(-4, "sow", set, 7, 511);
            Edges.refuses(-4, "sow", set, 7, 512);
            sows(Edges.NEW, set, 7, 515, 3, "7 9 11");
            sows(Edges.NEW, set, 7, 770, 2, "7 10");
            Edges.refuses(-4, "sow", set, 7, 25600);
            sows(Edges.NEW, set, 7, 25601, 1, "7");
            sows(Edges.NEW, set, 7, 25800, 6, "7 107 207 307 407 507");
            Edges.refuses(-4, "sow", set, 7, 25801);
            Edges.refuses(-4, "sow", set, 7, 25855);
            Edges.refuses(-3, "sow", set, 7, 25856);
        });
    }

    private static void countOfThem(int set) {
        Check.sentence("Promise 7: Puts first, first + step, first + 2 * step, .., count of them, into a set", () -> {
            sows(Edges.NEW, set, 0, rule(100, 1), 1, "0");
            sows(Edges.NEW, set, 0, rule(2, 2), 2, "0 2");
            sows(Edges.NEW, set, 1, rule(3, 3), 3, "1 4 7");
            sows(Edges.NEW, set, 11, rule(100, 5), 5, "11 111 211 311 411");
            sows(Edges.NEW, set, 113, rule(2, 200), 200, Check.told(n -> n >= 113 && n % 2 == 1));
            sows(Edges.full(set), set, 0, rule(1, 200), 512, Edges.ALL);
        });
    }

    // The other sets are empty and stay so: what is beyond 511 must not come round, nor into the next set.
    private static void atMost511(int set) {
        Check.sentence("Promise 7: as far as they are at most 511", () -> {
            sows(Edges.NEW, set, 511, rule(1, 2), 1, "511");
            sows(Edges.NEW, set, 511, rule(1, 200), 1, "511");
            sows(Edges.NEW, set, 511, rule(100, 200), 1, "511");
            sows(Edges.NEW, set, 510, rule(1, 2), 2, "510-511");
            sows(Edges.NEW, set, 510, rule(1, 3), 2, "510-511");
            sows(Edges.NEW, set, 510, rule(2, 2), 1, "510");
            sows(Edges.NEW, set, 411, rule(100, 2), 2, "411 511");
            sows(Edges.NEW, set, 411, rule(100, 3), 2, "411 511");
            sows(Edges.NEW, set, 412, rule(100, 2), 1, "412");
            sows(Edges.NEW, set, 312, rule(1, 200), 200, "312-511");
            sows(Edges.NEW, set, 313, rule(1, 200), 199, "313-511");
            sows(Edges.NEW, set, 0, rule(100, 200), 6, "0 100 200 300 400 500");
            sows(Edges.NEW, set, 11, rule(100, 200), 6, "11 111 211 311 411 511");
            sows(Edges.NEW, set, 12, rule(100, 200), 5, "12 112 212 312 412");
        });
    }

    private static void answersTheSize(int set) {
        Check.sentence("Promise 7: otherwise answers how many numbers the set has now", () -> {
            sows(Edges.full(set), set, 511, rule(100, 200), 512, Edges.ALL);
            sows(Edges.allBut(set, 511), set, 511, rule(1, 1), 512, Edges.ALL);
            sows(Edges.allBut(set, 0), set, 1, rule(1, 200), 511, "1-511");
            sows(Edges.just(set, 0, 511), set, 0, rule(1, 1), 2, "0 511");
            sows(Edges.just(set, 0, 511), set, 100, rule(1, 3), 5, "0 100-102 511");
            sows(Edges.just(set, 101), set, 100, rule(1, 3), 3, "100-102");
        });
    }
}
