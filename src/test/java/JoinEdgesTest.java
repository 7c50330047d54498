/** The boundary cases of promise 8. */
public final class JoinEdgesTest {
    private static final String[] KINDS = {
        "kind 0 the numbers that are in a and in b", "1 those in at least one", "2 those in just one",
        "3 those in a but not in b"};

    public static void main(String[] args) {
        refusals();
        for (int kind = 0; kind < 4; kind++) {
            int k = kind;
            Check.sentence("Promise 8: " + KINDS[k], () -> {
                eachEndOfTheNumbers(k);
                emptyAndFull(k);
            });
        }
        setABecomes();
        aAndBTheSame();
        answersTheSize();
        Check.end();
    }

    private static void refusals() {
        Check.sentence("Promise 8: -1 if kind is not in 0 .. 3", () -> {
            for (int kind : new int[] {Edges.MIN, -4, -2, -1, 4, 5, 256, Edges.MAX}) {
                Edges.refuses(-1, "join", kind, 0, 1);
                Edges.refuses(-1, "join", kind, 1, 2);
                Edges.refuses(-1, "join", kind, 2, 0);
                Edges.refuses(-1, "join", kind, 1, 1);
            }
            Edges.makes(Edges.just(0, 5), 0, " |  |  | tape empty", "join", 0, 0, 1);
            Edges.makes(Edges.just(0, 5), 1, "5 |  |  | tape empty", "join", 3, 0, 1);
        });
        Check.sentence("Promise 8: -2 if a or b is not good", () -> {
            for (int kind = 0; kind < 4; kind++) {
                Edges.takesGoodPairsOnly(0, -2, "join", kind);
            }
        });
    }

    private static boolean joined(int kind, boolean inA, boolean inB) {
        boolean[] answers = {inA & inB, inA | inB, inA ^ inB, inA & !inB};
        return answers[kind];
    }

    private static String three(int a, String ofA, int b, String ofB) {
        StringBuilder text = new StringBuilder();
        for (int set = 0; set < 3; set++) {
            text.append(set == a ? ofA : set == b ? ofB : "").append(" | ");
        }
        return text + "tape empty";
    }

    private static void eachEndOfTheNumbers(int kind) {
        for (int number : new int[] {0, 511}) {
            for (int which = 0; which < 4; which++) {
                boolean inA = which % 2 == 1;
                boolean inB = which / 2 == 1;
                oneNumber(kind, number, inA, inB);
            }
        }
    }

    private static void oneNumber(int kind, int number, boolean inA, boolean inB) {
        for (int a = 0; a < 3; a++) {
            int b = (a + 1) % 3;
            int of = a;
            Check.Calls before = x -> {
                if (inA) {
                    x.add(of, number);
                }
                if (inB) {
                    x.add(b, number);
                }
            };
            boolean in = joined(kind, inA, inB);
            String state = three(a, in ? "" + number : "", b, inB ? "" + number : "");
            Edges.makes(before, in ? 1 : 0, state, "join", kind, a, b);
        }
    }

    private static void emptyAndFull(int kind) {
        for (int a = 0; a < 3; a++) {
            int b = (a + 2) % 3;
            for (int which = 0; which < 4; which++) {
                boolean fullA = which % 2 == 1;
                boolean fullB = which / 2 == 1;
                Check.Calls ofA = fullA ? Edges.full(a) : Edges.NEW;
                Check.Calls ofB = fullB ? Edges.full(b) : Edges.NEW;
                boolean in = joined(kind, fullA, fullB);
                String state = three(a, in ? Edges.ALL : "", b, fullB ? Edges.ALL : "");
                Edges.makes(Edges.both(ofA, ofB), in ? 512 : 0, state, "join", kind, a, b);
            }
        }
    }

    private static void setABecomes() {
        Check.sentence("Promise 8: Set a becomes", () -> {
            String zero = "0 50 100 150 200 250 300 350 400 450 500";
            String one = "100-300";
            String two = "508-511";
            String tape = " | tape 200-210";
            Edges.makes(Edges.SOME, 5, "100 150 200 250 300 | " + one + " | " + two + tape, "join", 0, 0, 1);
            Edges.makes(Edges.SOME, 205, zero + " | 100-300 508-511 | " + two + tape, "join", 1, 1, 2);
            Edges.makes(Edges.SOME, 15, zero + " | " + one + " | " + zero + " 508-511" + tape, "join", 2, 2, 0);
            Edges.makes(Edges.SOME, 4, zero + " | " + one + " | " + two + tape, "join", 3, 2, 1);
        });
    }

    private static void aAndBTheSame() {
        Check.sentence("Promise 8: a and b may be the same", () -> {
            for (int set = 0; set < 3; set++) {
                for (int kind = 0; kind < 4; kind++) {
                    boolean stays = kind < 2;
                    String all = Edges.only(set, stays ? Edges.ALL : "");
                    String ends = Edges.only(set, stays ? "0 200 511" : "");
                    Edges.makes(Edges.NEW, 0, Edges.only(set, ""), "join", kind, set, set);
                    Edges.makes(Edges.full(set), stays ? 512 : 0, all, "join", kind, set, set);
                    Edges.makes(Edges.just(set, 0, 200, 511), stays ? 3 : 0, ends, "join", kind, set, set);
                }
            }
        });
    }

    private static void answersTheSize() {
        Check.sentence("Promise 8: otherwise answers how many numbers set a has now", () -> {
            Check.Calls before = x -> {
                x.fill(0, 0, 9);
                x.fill(1, 5, 511);
            };
            Edges.makes(before, 5, "5-9 | 5-511 |  | tape empty", "join", 0, 0, 1);
            Edges.makes(before, 5, "0-9 | 5-9 |  | tape empty", "join", 0, 1, 0);
            Edges.makes(before, 512, "0-511 | 5-511 |  | tape empty", "join", 1, 0, 1);
            Edges.makes(before, 507, "0-4 10-511 | 5-511 |  | tape empty", "join", 2, 0, 1);
            Edges.makes(before, 5, "0-4 | 5-511 |  | tape empty", "join", 3, 0, 1);
            Edges.makes(before, 502, "0-9 | 10-511 |  | tape empty", "join", 3, 1, 0);
            Edges.makes(before, 0, "0-9 | 5-511 |  | tape empty", "join", 0, 2, 1);
        });
    }
}
