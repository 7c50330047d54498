/** The boundary cases that the document's terms name for every method. */
public final class TermsEdgesTest {
    private static final int MIN = Edges.MIN;
    private static final int MAX = Edges.MAX;
    private static final int[] ARGUMENTS = {MIN, -1, 0, 2, 3, 257, 511, 512, MAX};
    private static final String[] OF_TWO_SETS = {"join", "common", "within", "same"};
    private static final String[] OF_A_NUMBER = {"add", "remove", "sow", "has", "gap"};
    private static final String[] OF_A_RANGE = {"fill", "clear", "flip"};

    private interface Arguments {
        void with(int p, int q, int r);
    }

    public static void main(String[] args) {
        goodSets();
        goodNumbers();
        goodRanges();
        theTape();
        noQuestionChangesAnything();
        aRefusedCallChangesNothing();
        theOrderOfTheTests();
        the512thCall();
        Check.end();
    }

    private static void taken(String name, int... args) {
        Call call = new Call(name, args);
        for (Check.Calls state : Edges.STATES) {
            boolean refused = call.on(Check.after(state)) < 0;
            Check.due(call + " is refused", refused, false);
        }
    }

    private static void goodSets() {
        Check.sentence("Terms: a set's number is good if it is 0 .. 2", () -> {
            for (String name : new String[] {
                "add", "remove", "fill", "clear", "flip", "sow", "shift", "write", "has", "size", "rank", "runs"}) {
                for (int set = 0; set < 3; set++) {
                    taken(name, set, 1, 257);
                }
            }
            for (String name : OF_TWO_SETS) {
                taken(name, 0, 2, 0);
                taken(name, 2, 0, 2);
            }
            for (int set : Edges.WRONG_SETS) {
                everyMethodRefuses(set);
            }
        });
        Check.sentence("Terms: There are three SETS, 0 .. 2, all empty at first", () -> {
            Check.due("the state of a new object", Check.state(Edges.NEW), " |  |  | tape empty");
            Check.Calls each = x -> {
                x.fill(0, 0, 9);
                x.fill(1, 100, 199);
                x.fill(2, 509, 511);
            };
            Check.due("the state", Check.state(each), "0-9 | 100-199 | 509-511 | tape empty");
        });
    }

    private static void everyMethodRefuses(int wrongSet) {
        for (String[] names : new String[][] {Call.CHANGES, Call.QUESTIONS}) {
            for (String name : names) {
                if (name.equals("join")) {
                    Edges.refuses(-2, name, 0, wrongSet, 0);
                    Edges.refuses(-2, name, 0, 0, wrongSet);
                } else {
                    Edges.refuses(-1, name, wrongSet, 1, 257);
                }
            }
        }
        for (String name : new String[] {"common", "within", "same"}) {
            Edges.refuses(-1, name, 1, wrongSet);
        }
    }

    private static void goodNumbers() {
        Check.sentence("Terms: NUMBERS are 0 .. 511", () -> {
            for (int set = 0; set < 3; set++) {
                Edges.answers(Edges.FULL, 512, "size", set);
                Edges.answers(Edges.FULL, 0, "next", set, MIN);
                Edges.answers(Edges.FULL, 511, "previous", set, MAX);
                Edges.answers(Edges.FULL, -3, "gap", set, 0);
            }
        });
        Check.sentence("Terms: a number if it is 0 .. 511", () -> {
            for (String name : OF_A_NUMBER) {
                for (int number : new int[] {0, 511}) {
                    Call call = new Call(name, 1, number, 257);
                    Check.due(call + " is refused", call.on(new RoaringCodec()) < 0, false);
                }
                for (int number : Edges.WRONG_NUMBERS) {
                    Edges.refuses(-2, name, 1, number, 257);
                }
            }
        });
    }

    private static void goodRanges() {
        int[] ends = {MIN, -1, 0, 1, 256, 511, 512, MAX};
        for (String name : OF_A_RANGE) {
            Check.sentence("Terms: a range (first, last) if 0 <= first", () -> {
                taken(name, 1, 0, 0);
                taken(name, 1, 0, 511);
                for (int last : ends) {
                    Edges.refuses(-2, name, 1, -1, last);
                    Edges.refuses(-2, name, 1, MIN, last);
                }
            });
            Check.sentence("Terms: a range (first, last) if first <= last", () -> {
                for (int last = 0; last < 511; last++) {
                    taken(name, 1, last, last);
                    taken(name, 1, last, last + 1);
                    Edges.refuses(-2, name, 1, last + 1, last);
                }
                Edges.refuses(-2, name, 1, 511, 0);
            });
            Check.sentence("Terms: a range (first, last) if last <= 511", () -> {
                taken(name, 1, 0, 511);
                taken(name, 1, 511, 511);
                for (int first : ends) {
                    Edges.refuses(-2, name, 1, first, 512);
                    Edges.refuses(-2, name, 1, first, MAX);
                }
            });
        }
    }

    private static void theTape() {
        Check.sentence("Terms: There is one TAPE, which is empty or holds a written set", () -> {
            for (int from = 0; from < 3; from++) {
                int f = from;
                Check.Calls written = x -> {
                    x.fill(0, 0, 511);
                    x.write(0);
                    x.clear(0, 0, 511);
                    x.add(f, 511);
                    x.write(f);
                    x.remove(f, 511);
                };
                for (int to = 0; to < 3; to++) {
                    Edges.makes(written, 1, Edges.only(to, "511", "511"), "read", to);
                }
            }
        });
        Check.sentence("Terms: it is empty at first", () -> {
            for (int set = 0; set < 3; set++) {
                Edges.makes(Edges.NEW, -2, " |  |  | tape empty", "read", set);
            }
        });
    }

    /** Every choice of as many arguments as the method takes; the others are 0. */
    private static void forAllArguments(String name, Arguments arguments) {
        int count = Call.arguments(name);
        int[] zero = {0};
        for (int p : ARGUMENTS) {
            for (int q : count > 1 ? ARGUMENTS : zero) {
                for (int r : count > 2 ? ARGUMENTS : zero) {
                    arguments.with(p, q, r);
                }
            }
        }
    }

    private static void unchanged(Check.Calls state, Check.Look look, String before, Call call) {
        Check.due("the state after " + call, Check.state(x -> {
            state.on(x);
            call.on(x);
        }, look), before);
    }

    private static void noQuestionChangesAnything() {
        for (Check.Calls state : Edges.STATES) {
            for (String name : Call.QUESTIONS) {
                Check.Look look = name.equals("has") ? Check.BY_GAP : Check.BY_HAS;
                String before = Check.state(state, look);
                Check.sentence("Terms: No question changes anything: " + name, () ->
                    forAllArguments(name, (p, q, r) -> unchanged(state, look, before, new Call(name, p, q, r))));
            }
        }
    }

    private static void aRefusedCallChangesNothing() {
        for (Check.Calls state : Edges.STATES) {
            String before = Check.state(state);
            for (String name : Call.CHANGES) {
                Check.sentence("Terms: A refused call changes nothing: " + name, () ->
                    forAllArguments(name, (p, q, r) -> {
                        Call call = new Call(name, p, q, r);
                        if (call.on(Check.after(state)) < 0) {
                            unchanged(state, Check.BY_HAS, before, call);
                        }
                    }));
            }
        }
    }

    // In each call more than one argument is wrong, so that a later test made first would show.
    private static void theOrderOfTheTests() {
        for (int set : Edges.WRONG_SETS) {
            theSetFirst(set);
        }
        Check.sentence("Terms: the tests are made in the order named: sow", () -> {
            for (int first : Edges.WRONG_NUMBERS) {
                for (int rule : new int[] {MIN, -257, -1, 0, 201, 256, 457, 25856, MAX}) {
                    Edges.refuses(-2, "sow", 1, first, rule);
                }
            }
            for (int rule : new int[] {0, 201, 255, -256, -512, 256 * 101, 256 * 101 + 201, MIN, MAX}) {
                Edges.refuses(-3, "sow", 1, 0, rule);
            }
        });
        Check.sentence("Terms: the tests are made in the order named: join", () -> {
            for (int kind : new int[] {MIN, -1, 4, MAX}) {
                for (int set : Edges.WRONG_SETS) {
                    Edges.refuses(-1, "join", kind, set, 0);
                    Edges.refuses(-1, "join", kind, 0, set);
                    Edges.refuses(-1, "join", kind, set, set);
                }
            }
        });
        Check.sentence("Terms: the tests are made in the order named: gap", () -> {
            for (int from : Edges.WRONG_NUMBERS) {
                Edges.answers(Edges.FULL, -2, "gap", 1, from);
            }
        });
        Check.sentence("Terms: the tests are made in the order named: read", () -> {
            for (int set : Edges.WRONG_SETS) {
                Edges.makes(Edges.NEW, -1, " |  |  | tape empty", "read", set);
            }
        });
    }

    private static void theSetFirst(int wrongSet) {
        for (String name : new String[] {"add", "remove", "has", "gap", "select", "shift"}) {
            Check.sentence("Terms: the tests are made in the order named: " + name, () -> {
                for (int wrong : new int[] {MIN, -512, 512, MAX}) {
                    Edges.refuses(-1, name, wrongSet, wrong);
                }
            });
        }
        for (String name : OF_A_RANGE) {
            Check.sentence("Terms: the tests are made in the order named: " + name, () -> {
                for (int[] range : Edges.WRONG_RANGES) {
                    Edges.refuses(-1, name, wrongSet, range[0], range[1]);
                }
            });
        }
        Check.sentence("Terms: the tests are made in the order named: sow", () -> {
            for (int rule : new int[] {MIN, -1, 0, 256, 457, 25856, MAX}) {
                Edges.refuses(-1, "sow", wrongSet, 0, rule);
                Edges.refuses(-1, "sow", wrongSet, 512, rule);
                Edges.refuses(-1, "sow", wrongSet, -1, rule);
            }
        });
    }

    private static void the512thCall() {
        Check.sentence("What it is: An object is used for at most 512 calls", () -> {
            RoaringCodec filled = new RoaringCodec();
            for (int call = 1; call <= 512; call++) {
                Check.due("add as call " + call, filled.add(0, 512 - call), 1);
            }
            Call[] most = {
                new Call("add", 3, 0), new Call("add", 0, 511), new Call("sow", 0, 0, 25800),
                new Call("flip", 0, 0, 511), new Call("join", 1, 0, 1), new Call("shift", 0, 1),
                new Call("write", 0), new Call("read", 0), new Call("size", 0), new Call("within", 0, 1)};
            for (Call each : most) {
                RoaringCodec x = new RoaringCodec();
                for (int call = 1; call < 512; call++) {
                    each.on(x);
                }
                Check.due("fill(2, 0, 511) as call 512 after " + each, x.fill(2, 0, 511), 512);
            }
        });
    }
}
