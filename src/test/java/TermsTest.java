/** The terms: a refused call changes nothing, nor does a question, and the tests are made in the order named. */
public final class TermsTest {
    private static final int MIN = Check.MIN;
    private static final int MAX = Check.MAX;

    public static void main(String[] args) {
        for (int wrongSet : Check.WRONG_SETS) {
            changesOfAWrongSet(wrongSet);
            questionsOfAWrongSet(wrongSet);
            for (int set : new int[] {0, 1, 2, wrongSet}) {
                pairsWithAWrongSet(wrongSet, set);
                pairsWithAWrongSet(set, wrongSet);
            }
        }
        for (int number : Check.WRONG_NUMBERS) {
            wrongNumbers(number);
        }
        for (int[] range : Check.WRONG_RANGES) {
            wrongRanges(range[0], range[1]);
        }
        wrongKindsAndDistances();
        anEmptyTape();
        for (int set = 0; set < 3; set++) {
            questionsChangeNothing(set);
        }
        Check.end();
    }

    private static void some(RoaringCodec x) {
        x.fill(1, 200, 210);
        x.write(1);
        x.sow(0, 0, 256 * 50 + 20);
        x.fill(1, 100, 300);
        x.fill(2, 508, 511);
    }

    private static void unchanged(String what, Check.Question call, int want) {
        Check.changesNothing(what, TermsTest::some, call, want);
    }

    // The other arguments are wrong too, once, so that a later test made first would show.
    private static void changesOfAWrongSet(int s) {
        unchanged("add(" + s + ", 5)", x -> x.add(s, 5), -1);
        unchanged("add(" + s + ", 512)", x -> x.add(s, 512), -1);
        unchanged("remove(" + s + ", 0)", x -> x.remove(s, 0), -1);
        unchanged("remove(" + s + ", -1)", x -> x.remove(s, -1), -1);
        unchanged("fill(" + s + ", 0, 511)", x -> x.fill(s, 0, 511), -1);
        unchanged("fill(" + s + ", 5, 4)", x -> x.fill(s, 5, 4), -1);
        unchanged("clear(" + s + ", 0, 511)", x -> x.clear(s, 0, 511), -1);
        unchanged("clear(" + s + ", -1, 512)", x -> x.clear(s, -1, 512), -1);
        unchanged("flip(" + s + ", 0, 511)", x -> x.flip(s, 0, 511), -1);
        unchanged("flip(" + s + ", 0, 512)", x -> x.flip(s, 0, 512), -1);
        unchanged("sow(" + s + ", 0, 257)", x -> x.sow(s, 0, 257), -1);
        unchanged("sow(" + s + ", 512, -1)", x -> x.sow(s, 512, -1), -1);
        unchanged("shift(" + s + ", 1)", x -> x.shift(s, 1), -1);
        unchanged("shift(" + s + ", 512)", x -> x.shift(s, 512), -1);
        unchanged("write(" + s + ")", x -> x.write(s), -1);
        unchanged("read(" + s + ")", x -> x.read(s), -1);
        Check.changesNothing("read(" + s + ") of an empty tape", x -> { }, x -> x.read(s), -1);
        Check.changesNothing("write(" + s + ") to an empty tape", x -> { }, x -> x.write(s), -1);
    }

    private static void questionsOfAWrongSet(int s) {
        unchanged("has(" + s + ", 5)", x -> x.has(s, 5), -1);
        unchanged("has(" + s + ", 512)", x -> x.has(s, 512), -1);
        unchanged("size(" + s + ")", x -> x.size(s), -1);
        unchanged("rank(" + s + ", 5)", x -> x.rank(s, 5), -1);
        unchanged("rank(" + s + ", MIN)", x -> x.rank(s, MIN), -1);
        unchanged("select(" + s + ", 0)", x -> x.select(s, 0), -1);
        unchanged("select(" + s + ", -1)", x -> x.select(s, -1), -1);
        unchanged("next(" + s + ", 0)", x -> x.next(s, 0), -1);
        unchanged("next(" + s + ", MAX)", x -> x.next(s, MAX), -1);
        unchanged("previous(" + s + ", 511)", x -> x.previous(s, 511), -1);
        unchanged("previous(" + s + ", MIN)", x -> x.previous(s, MIN), -1);
        unchanged("gap(" + s + ", 0)", x -> x.gap(s, 0), -1);
        unchanged("gap(" + s + ", 512)", x -> x.gap(s, 512), -1);
        unchanged("runs(" + s + ")", x -> x.runs(s), -1);
    }

    private static void pairsWithAWrongSet(int a, int b) {
        String pair = a + ", " + b + ")";
        for (int kind = 0; kind < 4; kind++) {
            int k = kind;
            unchanged("join(" + k + ", " + pair, x -> x.join(k, a, b), -2);
        }
        unchanged("join(4, " + pair, x -> x.join(4, a, b), -1);
        unchanged("join(-1, " + pair, x -> x.join(-1, a, b), -1);
        unchanged("common(" + pair, x -> x.common(a, b), -1);
        unchanged("within(" + pair, x -> x.within(a, b), -1);
        unchanged("same(" + pair, x -> x.same(a, b), -1);
    }

    private static void wrongNumbers(int n) {
        for (int set = 0; set < 3; set++) {
            int s = set;
            String pair = "(" + s + ", " + n + ")";
            unchanged("add" + pair, x -> x.add(s, n), -2);
            unchanged("remove" + pair, x -> x.remove(s, n), -2);
            unchanged("has" + pair, x -> x.has(s, n), -2);
            unchanged("gap" + pair, x -> x.gap(s, n), -2);
            unchanged("sow" + pair, x -> x.sow(s, n, 257), -2);
            unchanged("sow" + pair + " by a wrong step", x -> x.sow(s, n, 0), -2);
            unchanged("sow" + pair + " by a wrong count", x -> x.sow(s, n, 256), -2);
        }
        Check.dueAfter("gap(0, " + n + ") of a full set", x -> x.fill(0, 0, 511), x -> x.gap(0, n), -2);
    }

    private static void wrongRanges(int first, int last) {
        for (int set = 0; set < 3; set++) {
            int s = set;
            String what = "(" + s + ", " + first + ", " + last + ")";
            unchanged("fill" + what, x -> x.fill(s, first, last), -2);
            unchanged("clear" + what, x -> x.clear(s, first, last), -2);
            unchanged("flip" + what, x -> x.flip(s, first, last), -2);
        }
    }

    private static void wrongKindsAndDistances() {
        for (int kind : new int[] {MIN, -2, -1, 4, 5, MAX}) {
            unchanged("join(" + kind + ", 0, 1)", x -> x.join(kind, 0, 1), -1);
            unchanged("join(" + kind + ", 1, 1)", x -> x.join(kind, 1, 1), -1);
        }
        for (int by : new int[] {MIN, MIN + 1, -1024, -513, -512, 512, 513, 1024, MAX}) {
            for (int set = 0; set < 3; set++) {
                int s = set;
                unchanged("shift(" + s + ", " + by + ")", x -> x.shift(s, by), -2);
            }
        }
    }

    private static void anEmptyTape() {
        Check.Calls unwritten = x -> {
            x.fill(0, 5, 9);
            x.fill(2, 100, 200);
        };
        for (int set = 0; set < 3; set++) {
            int s = set;
            Check.changesNothing("read(" + s + ") of an empty tape", unwritten, x -> x.read(s), -2);
        }
    }

    private static void questionsChangeNothing(int s) {
        int[] sizes = {11, 201, 4};
        int[] first = {0, 100, 508};
        int[] last = {500, 300, 511};
        int[] runs = {11, 1, 1};
        int next = (s + 1) % 3;
        int[] common = {5, 0, 0};
        unchanged("has(" + s + ", first)", x -> x.has(s, first[s]), 1);
        unchanged("has(" + s + ", 77)", x -> x.has(s, 77), 0);
        unchanged("size(" + s + ")", x -> x.size(s), sizes[s]);
        unchanged("rank(" + s + ", 512)", x -> x.rank(s, 512), sizes[s]);
        unchanged("select(" + s + ", 0)", x -> x.select(s, 0), first[s]);
        unchanged("select(" + s + ", 511)", x -> x.select(s, 511), -2);
        unchanged("next(" + s + ", MIN)", x -> x.next(s, MIN), first[s]);
        unchanged("previous(" + s + ", MAX)", x -> x.previous(s, MAX), last[s]);
        unchanged("gap(" + s + ", 77)", x -> x.gap(s, 77), 77);
        unchanged("runs(" + s + ")", x -> x.runs(s), runs[s]);
        unchanged("common(" + s + ", " + next + ")", x -> x.common(s, next), common[s]);
        unchanged("within(" + s + ", " + next + ")", x -> x.within(s, next), 0);
        unchanged("same(" + s + ", " + next + ")", x -> x.same(s, next), 0);
        unchanged("common(" + s + ", " + s + ")", x -> x.common(s, s), sizes[s]);
    }
}
