/** The boundary cases of promises 16 to 19. */
public final class NeighboursEdgesTest {
    private static final int MIN = Edges.MIN;
    private static final int MAX = Edges.MAX;
    private static final int[] BELOW_ALL = {MIN, MIN + 1, -513, -512, -511, -1};
    private static final int[] ABOVE_ALL = {512, 513, 1023, 1024, MAX - 1, MAX};

    public static void main(String[] args) {
        for (int at : new int[] {MIN, -1, 0, 511, 512, MAX}) {
            Check.sentence("Promise 16: -1 if set is not good", () -> Edges.takesGoodSetsOnly(-2, "next", at));
            Check.sentence("Promise 17: -1 if set is not good", () -> Edges.takesGoodSetsOnly(-2, "previous", at));
        }
        Check.sentence("Promise 18: -1 if set is not good", () -> {
            Edges.takesGoodSetsOnly(0, "gap", 0);
            Edges.takesGoodSetsOnly(511, "gap", 511);
        });
        Check.sentence("Promise 19: -1 if set is not good", () -> Edges.takesGoodSetsOnly(0, "runs"));
        for (int set = 0; set < 3; set++) {
            next(set);
            previous(set);
            gap(set);
            gapRefusals(set);
            runs(set);
        }
        Check.end();
    }

    /** This set is empty; the others are full, so that a look into them would show. */
    private static Check.Calls emptyAmongFull(int set) {
        return Edges.both(Edges.full((set + 1) % 3), Edges.full((set + 2) % 3));
    }

    private static void next(int set) {
        Check.sentence("Promise 16: The least number of the set that is at least from", () -> {
            for (int number : Edges.NUMBERS) {
                Edges.answers(Edges.full(set), number, "next", set, number);
                Edges.answers(Edges.just(set, number), number, "next", set, number);
                Edges.answers(Edges.just(set, number, 511), number, "next", set, 0);
            }
            Edges.answers(Edges.just(set, 0, 511), 511, "next", set, 1);
            Edges.answers(Edges.just(set, 0, 300, 511), 300, "next", set, 300);
            Edges.answers(Edges.just(set, 0, 300, 511), 511, "next", set, 301);
        });
        Check.sentence("Promise 16: from (any int)", () -> {
            for (int from : BELOW_ALL) {
                Edges.answers(Edges.full(set), 0, "next", set, from);
                Edges.answers(Edges.just(set, 511), 511, "next", set, from);
                Edges.answers(Edges.NEW, -2, "next", set, from);
            }
            for (int from : ABOVE_ALL) {
                Edges.answers(Edges.FULL, -2, "next", set, from);
                Edges.answers(Edges.NEW, -2, "next", set, from);
            }
        });
        Check.sentence("Promise 16: -2 if there is none", () -> {
            for (int from : new int[] {MIN, -1, 0, 300, 511, 512, MAX}) {
                Edges.answers(Edges.NEW, -2, "next", set, from);
                Edges.answers(emptyAmongFull(set), -2, "next", set, from);
            }
            Check.Calls but511 = Edges.both(emptyAmongFull(set), Edges.allBut(set, 511));
            Edges.answers(but511, 510, "next", set, 510);
            Edges.answers(but511, -2, "next", set, 511);
            Edges.answers(Edges.just(set, 0), -2, "next", set, 1);
        });
    }

    private static void previous(int set) {
        Check.sentence("Promise 17: The greatest number of the set that is at most to", () -> {
            for (int number : Edges.NUMBERS) {
                Edges.answers(Edges.full(set), number, "previous", set, number);
                Edges.answers(Edges.just(set, number), number, "previous", set, number);
                Edges.answers(Edges.just(set, 0, number), number, "previous", set, 511);
            }
            Edges.answers(Edges.just(set, 0, 511), 0, "previous", set, 510);
            Edges.answers(Edges.just(set, 0, 300, 511), 300, "previous", set, 300);
            Edges.answers(Edges.just(set, 0, 300, 511), 0, "previous", set, 299);
        });
        Check.sentence("Promise 17: to (any int)", () -> {
            for (int to : ABOVE_ALL) {
                Edges.answers(Edges.full(set), 511, "previous", set, to);
                Edges.answers(Edges.just(set, 0), 0, "previous", set, to);
                Edges.answers(Edges.NEW, -2, "previous", set, to);
            }
            for (int to : BELOW_ALL) {
                Edges.answers(Edges.FULL, -2, "previous", set, to);
                Edges.answers(Edges.NEW, -2, "previous", set, to);
            }
        });
        Check.sentence("Promise 17: -2 if there is none", () -> {
            for (int to : new int[] {MIN, -1, 0, 300, 511, 512, MAX}) {
                Edges.answers(Edges.NEW, -2, "previous", set, to);
                Edges.answers(emptyAmongFull(set), -2, "previous", set, to);
            }
            Check.Calls but0 = Edges.both(emptyAmongFull(set), Edges.allBut(set, 0));
            Edges.answers(but0, 1, "previous", set, 1);
            Edges.answers(but0, -2, "previous", set, 0);
            Edges.answers(Edges.just(set, 511), -2, "previous", set, 510);
        });
    }

    private static void gap(int set) {
        Check.sentence("Promise 18: The least number that is at least from and is not in the set", () -> {
            for (int number : Edges.NUMBERS) {
                Edges.answers(Edges.NEW, number, "gap", set, number);
                Edges.answers(Edges.FULL, -3, "gap", set, number);
                Edges.answers(Edges.allBut(set, number), number, "gap", set, number);
                Edges.answers(Edges.allBut(set, number), number, "gap", set, 0);
            }
            Edges.answers(Edges.just(set, 0), 1, "gap", set, 0);
            Edges.answers(Edges.allBut(set, 0, 300, 511), 300, "gap", set, 1);
            Edges.answers(Edges.allBut(set, 0, 300, 511), 300, "gap", set, 300);
            Edges.answers(Edges.allBut(set, 0, 300, 511), 511, "gap", set, 301);
        });
    }

    private static void gapRefusals(int set) {
        Check.sentence("Promise 18: -2 if from is not good", () -> {
            for (int from : Edges.WRONG_NUMBERS) {
                Edges.refuses(-2, "gap", set, from);
            }
            Edges.answers(Edges.NEW, 0, "gap", set, 0);
            Edges.answers(Edges.NEW, 511, "gap", set, 511);
        });
        Check.sentence("Promise 18: -3 if there is none in 0 .. 511", () -> {
            for (int from : Edges.NUMBERS) {
                Edges.answers(Edges.full(set), -3, "gap", set, from);
                Edges.answers(x -> x.fill(set, from, 511), -3, "gap", set, from);
            }
            Edges.answers(Edges.just(set, 511), -3, "gap", set, 511);
            Edges.answers(Edges.just(set, 511), 510, "gap", set, 510);
            Edges.answers(Edges.allBut(set, 511), 511, "gap", set, 0);
            Edges.answers(Edges.allBut(set, 511), 511, "gap", set, 511);
            Edges.answers(Edges.allBut(set, 510), 510, "gap", set, 510);
            Edges.answers(Edges.allBut(set, 510), -3, "gap", set, 511);
        });
    }

    private static void runs(int set) {
        Check.sentence("Promise 19: How many greatest stretches of neighbouring numbers the set has", () -> {
            Edges.answers(Edges.NEW, 0, "runs", set);
            Edges.answers(emptyAmongFull(set), 0, "runs", set);
            Edges.answers(Edges.full(set), 1, "runs", set);
            Edges.answers(Edges.FULL, 1, "runs", set);
            Edges.answers(Edges.just(set, 0), 1, "runs", set);
            Edges.answers(Edges.just(set, 511), 1, "runs", set);
            Edges.answers(Edges.just(set, 0, 511), 2, "runs", set);
            Edges.answers(Edges.just(set, 0, 1), 1, "runs", set);
            Edges.answers(Edges.just(set, 0, 2), 2, "runs", set);
            Edges.answers(Edges.just(set, 510, 511), 1, "runs", set);
            Edges.answers(Edges.just(set, 509, 511), 2, "runs", set);
            Edges.answers(Edges.allBut(set, 0), 1, "runs", set);
            Edges.answers(Edges.allBut(set, 511), 1, "runs", set);
            Edges.answers(Edges.allBut(set, 300), 2, "runs", set);
            Edges.answers(everySecond(set, 0), 256, "runs", set);
            Edges.answers(everySecond(set, 1), 256, "runs", set);
        });
    }

    private static Check.Calls everySecond(int set, int first) {
        return x -> {
            x.sow(set, first, 256 * 2 + 200);
            x.sow(set, first + 400, 256 * 2 + 56);
        };
    }
}
