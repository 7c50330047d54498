import java.util.function.IntPredicate;

/** What the tests share: the count of wrong answers, and a look at the whole state of an object. */
final class Check {
    static final int NUMBERS = 512;

    // An object is good for 512 calls, so a look at 512 numbers takes more than one object.
    private static final int LOOKS_PER_OBJECT = 256;
    private static final int MOST_LINES = 40;

    private static int wrong = 0;

    private Check() {
    }

    interface Calls {
        void on(RoaringCodec x);
    }

    interface Question {
        int ask(RoaringCodec x);
    }

    interface Look {
        boolean finds(RoaringCodec x, int set, int number);
    }

    static final Look BY_HAS = (x, set, number) -> x.has(set, number) == 1;

    // For a look at what has itself leaves behind.
    static final Look BY_GAP = (x, set, number) -> x.gap(set, number) != number;

    interface Numbers {
        void into(RoaringCodec x, int set);
    }

    static void due(String what, Object got, Object want) {
        if (!got.equals(want)) {
            wrong++;
            if (wrong <= MOST_LINES) {
                System.out.println(what + " answered " + got + ", due is " + want);
            }
        }
    }

    /** Runs the test of one sentence of the document, and says so if the sentence is broken. */
    static void sentence(String words, Runnable test) {
        int before = wrong;
        try {
            test.run();
        } catch (RuntimeException e) {
            wrong++;
            System.out.println(e);
        }
        if (wrong != before) {
            System.out.println("BROKEN: " + words);
        }
    }

    static RoaringCodec after(Calls calls) {
        RoaringCodec x = new RoaringCodec();
        calls.on(x);
        return x;
    }

    /** The other two sets get just the other numbers, so that a look or a step into them would show. */
    static Calls amongOthers(Numbers numbers, int set) {
        return x -> {
            for (int each = 0; each < 3; each++) {
                numbers.into(x, each);
                if (each != set) {
                    x.flip(each, 0, 511);
                }
            }
        };
    }

    /** The answer of one call that follows the given ones on a new object. */
    static void dueAfter(String what, Calls calls, Question call, int want) {
        due(what, call.ask(after(calls)), want);
    }

    static void holds(String what, Calls calls, int set, String want) {
        due("the numbers of set " + set + " after " + what, contents(calls, set, BY_HAS), want);
    }

    /** The call must answer as due and leave the three sets and the tape as they were. */
    static void changesNothing(String what, Calls calls, Question call, int want) {
        dueAfter(what, calls, call, want);
        due("the state after " + what, state(x -> {
            calls.on(x);
            call.ask(x);
        }), state(calls));
    }

    /** A set's numbers, such as "0-4 7 510-511". */
    static String contents(Calls calls, int set, Look look) {
        boolean[] seen = new boolean[NUMBERS];
        for (int start = 0; start < NUMBERS; start += LOOKS_PER_OBJECT) {
            RoaringCodec x = after(calls);
            for (int number = start; number < start + LOOKS_PER_OBJECT; number++) {
                seen[number] = look.finds(x, set, number);
            }
        }
        return told(number -> seen[number]);
    }

    static String state(Calls calls) {
        return state(calls, BY_HAS);
    }

    static String state(Calls calls, Look look) {
        String tape = after(calls).read(0) < 0 ? "empty" : contents(x -> {
            calls.on(x);
            x.read(0);
        }, 0, look);
        StringBuilder text = new StringBuilder();
        for (int set = 0; set < 3; set++) {
            text.append(contents(calls, set, look)).append(" | ");
        }
        return text + "tape " + tape;
    }

    static String told(IntPredicate in) {
        StringBuilder text = new StringBuilder();
        int number = 0;
        while (number < NUMBERS) {
            int end = number;
            while (end < NUMBERS && in.test(end)) {
                end++;
            }
            if (end > number) {
                text.append(text.length() == 0 ? "" : " ").append(number);
                text.append(end - 1 > number ? "-" + (end - 1) : "");
            }
            number = end + 1;
        }
        return text.toString();
    }

    static void end() {
        if (wrong > MOST_LINES) {
            System.out.println("and " + (wrong - MOST_LINES) + " more");
        }
        if (wrong != 0) {
            System.exit(1);
        }
    }
}
