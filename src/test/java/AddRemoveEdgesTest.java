/** The boundary cases of promises 2 and 3. */
public final class AddRemoveEdgesTest {
    public static void main(String[] args) {
        add();
        remove();
        Check.end();
    }

    private static void add() {
        Check.sentence("Promise 2: -1 if set is not good", () -> {
            Edges.takesGoodSetsOnly(1, "add", 0);
            Edges.takesGoodSetsOnly(1, "add", 511);
        });
        Check.sentence("Promise 2: -2 if number is not good", () -> {
            for (int set = 0; set < 3; set++) {
                Edges.makes(Edges.NEW, 1, Edges.only(set, "0"), "add", set, 0);
                Edges.makes(Edges.NEW, 1, Edges.only(set, "511"), "add", set, 511);
                for (int number : Edges.WRONG_NUMBERS) {
                    Edges.refuses(-2, "add", set, number);
                }
            }
        });
        Check.sentence("Promise 2: otherwise 1 if it was not in it before", () -> {
            for (int set = 0; set < 3; set++) {
                for (int number : Edges.NUMBERS) {
                    Edges.makes(Edges.NEW, 1, Edges.only(set, "" + number), "add", set, number);
                    Edges.makes(Edges.allBut(set, number), 1, Edges.only(set, Edges.ALL), "add", set, number);
                }
            }
        });
        Check.sentence("Promise 2: else 0", () -> {
            for (int set = 0; set < 3; set++) {
                for (int number : Edges.NUMBERS) {
                    Edges.makes(Edges.full(set), 0, Edges.only(set, Edges.ALL), "add", set, number);
                    Edges.makes(Edges.just(set, number), 0, Edges.only(set, "" + number), "add", set, number);
                }
            }
        });
    }

    private static void remove() {
        Check.sentence("Promise 3: -1 if set is not good", () -> {
            Edges.takesGoodSetsOnly(0, "remove", 0);
            Edges.takesGoodSetsOnly(0, "remove", 511);
        });
        Check.sentence("Promise 3: -2 if number is not good", () -> {
            for (int set = 0; set < 3; set++) {
                Edges.makes(Edges.full(set), 1, Edges.only(set, "1-511"), "remove", set, 0);
                Edges.makes(Edges.full(set), 1, Edges.only(set, "0-510"), "remove", set, 511);
                for (int number : Edges.WRONG_NUMBERS) {
                    Edges.refuses(-2, "remove", set, number);
                }
            }
        });
        Check.sentence("Promise 3: otherwise 1 if it was in it before", () -> {
            for (int set = 0; set < 3; set++) {
                for (int number : Edges.NUMBERS) {
                    Edges.makes(Edges.just(set, number), 1, Edges.only(set, ""), "remove", set, number);
                    Edges.makes(Edges.full(set), 1, Edges.only(set, Edges.allBut(number)), "remove", set, number);
                }
            }
        });
        Check.sentence("Promise 3: else 0", () -> {
            for (int set = 0; set < 3; set++) {
                for (int number : Edges.NUMBERS) {
                    String rest = Edges.only(set, Edges.allBut(number));
                    Edges.makes(Edges.NEW, 0, Edges.only(set, ""), "remove", set, number);
                    Edges.makes(Edges.allBut(set, number), 0, rest, "remove", set, number);
                }
            }
        });
    }
}
