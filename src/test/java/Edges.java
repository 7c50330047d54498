/** What the tests of the document's boundary cases share. */
final class Edges {
    static final int MIN = Integer.MIN_VALUE;
    static final int MAX = Integer.MAX_VALUE;
    static final String ALL = "0-511";

    static final int[] WRONG_SETS = {MIN, -2, -1, 3, 4, 256, MAX};
    static final int[] WRONG_NUMBERS = {MIN, -512, -2, -1, 512, 513, 1024, MAX};
    static final int[][] WRONG_RANGES = {
        {-1, 0}, {-1, 511}, {MIN, 5}, {MIN, MAX}, {0, 512}, {511, 512}, {512, 512}, {0, MAX}, {-1, 512},
        {5, 4}, {511, 0}, {1, 0}, {511, 510}, {-1, -1}, {-5, -3}, {0, -1}, {0, MIN}, {600, 700}, {512, 511},
        {MAX, MIN}, {MAX, MAX}, {MIN, MIN}};
    static final int[] NUMBERS = {0, 1, 63, 64, 255, 256, 510, 511};

    static final Check.Calls NEW = x -> { };

    static final Check.Calls SOME = x -> {
        x.fill(1, 200, 210);
        x.write(1);
        x.sow(0, 0, 256 * 50 + 20);
        x.fill(1, 100, 300);
        x.fill(2, 508, 511);
    };

    static final Check.Calls FULL = x -> {
        for (int set = 0; set < 3; set++) {
            x.fill(set, 0, 511);
        }
        x.write(0);
    };

    static final Check.Calls EMPTY_WRITTEN = x -> {
        x.write(1);
        x.fill(0, 0, 511);
        x.add(2, 0);
        x.add(2, 511);
    };

    static final Check.Calls[] STATES = {NEW, SOME, FULL, EMPTY_WRITTEN};

    private Edges() {
    }

    /** In every state the call is refused with the answer that is due, and changes nothing. */
    static void refuses(int want, String name, int... args) {
        Call call = new Call(name, args);
        for (int i = 0; i < STATES.length; i++) {
            Check.changesNothing(call + " in state " + i, STATES[i], call::on, want);
        }
    }

    /** A question: the answer is due, and nothing changes. */
    static void answers(Check.Calls before, int want, String name, int... args) {
        Call call = new Call(name, args);
        Check.changesNothing(call.toString(), before, call::on, want);
    }

    /** A change: the answer is due, and so is the whole state after it. */
    static void makes(Check.Calls before, int want, String state, String name, int... args) {
        Call call = new Call(name, args);
        Check.dueAfter(call.toString(), before, call::on, want);
        Check.due("the state after " + call, Check.state(x -> {
            before.on(x);
            call.on(x);
        }), state);
    }

    /** On a new object the call is taken for each good set; for every other set it is refused with -1. */
    static void takesGoodSetsOnly(int want, String name, int... rest) {
        for (int set = 0; set < 3; set++) {
            Call call = new Call(name, before(set, rest));
            Check.dueAfter(call.toString(), NEW, call::on, want);
        }
        for (int set : WRONG_SETS) {
            refuses(-1, name, before(set, rest));
        }
    }

    /** As takesGoodSetsOnly, for a call whose arguments after the leading ones are two sets. */
    static void takesGoodPairsOnly(int want, int refusal, String name, int... leading) {
        for (int good = 0; good < 3; good++) {
            for (int other = 0; other < 3; other++) {
                Call call = new Call(name, pair(leading, good, other));
                Check.dueAfter(call.toString(), NEW, call::on, want);
            }
            for (int wrong : WRONG_SETS) {
                refuses(refusal, name, pair(leading, good, wrong));
                refuses(refusal, name, pair(leading, wrong, good));
            }
        }
        for (int wrong : WRONG_SETS) {
            refuses(refusal, name, pair(leading, wrong, wrong));
            refuses(refusal, name, pair(leading, wrong, 3));
            refuses(refusal, name, pair(leading, -1, wrong));
        }
    }

    private static int[] before(int first, int[] rest) {
        int[] all = new int[rest.length + 1];
        all[0] = first;
        System.arraycopy(rest, 0, all, 1, rest.length);
        return all;
    }

    private static int[] pair(int[] leading, int a, int b) {
        int[] all = new int[leading.length + 2];
        System.arraycopy(leading, 0, all, 0, leading.length);
        all[leading.length] = a;
        all[leading.length + 1] = b;
        return all;
    }

    static Check.Calls both(Check.Calls first, Check.Calls then) {
        return x -> {
            first.on(x);
            then.on(x);
        };
    }

    static Check.Calls full(int set) {
        return x -> x.fill(set, 0, 511);
    }

    static Check.Calls just(int set, int... numbers) {
        return x -> {
            for (int number : numbers) {
                x.add(set, number);
            }
        };
    }

    static Check.Calls allBut(int set, int... numbers) {
        return x -> {
            x.fill(set, 0, 511);
            for (int number : numbers) {
                x.remove(set, number);
            }
        };
    }

    /** The state in which one set has these numbers, the others are empty and nothing was written. */
    static String only(int set, String numbers) {
        return only(set, numbers, "empty");
    }

    static String only(int set, String numbers, String tape) {
        StringBuilder text = new StringBuilder();
        for (int each = 0; each < 3; each++) {
            text.append(each == set ? numbers : "").append(" | ");
        }
        return text + "tape " + tape;
    }

    static String allBut(int number) {
        return Check.told(n -> n != number);
    }
}
