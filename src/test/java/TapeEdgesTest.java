/** The boundary cases of promises 10 and 11. */
public final class TapeEdgesTest {
    public static void main(String[] args) {
        Check.sentence("Promise 10: -1 if set is not good", () -> Edges.takesGoodSetsOnly(0, "write"));
        Check.sentence("Promise 11: -1 if set is not good", () -> Edges.takesGoodSetsOnly(-2, "read"));
        for (int set = 0; set < 3; set++) {
            writes(set);
            writesInPlace(set);
            writesAnswerZero(set);
            anEmptyTape(set);
            aWrittenEmptySet(set);
            becomes(set);
            answersTheSize(set);
        }
        Check.end();
    }

    private static Check.Calls written(Check.Calls before, int set) {
        return Edges.both(before, x -> x.write(set));
    }

    private static void writes(int set) {
        Check.sentence("Promise 10: Writes a set to the tape", () -> {
            Edges.makes(Edges.NEW, 0, Edges.only(set, "", ""), "write", set);
            Edges.makes(Edges.full(set), 0, Edges.only(set, Edges.ALL, Edges.ALL), "write", set);
            Edges.makes(Edges.just(set, 0), 0, Edges.only(set, "0", "0"), "write", set);
            Edges.makes(Edges.just(set, 511), 0, Edges.only(set, "511", "511"), "write", set);
        });
    }

    private static void writesInPlace(int set) {
        Check.sentence("Promise 10: in place of what it held", () -> {
            Check.Calls fullThenEmpty = Edges.both(written(Edges.full(set), set), x -> x.clear(set, 0, 511));
            Check.Calls emptyThenFull = Edges.both(written(Edges.NEW, set), Edges.full(set));
            Check.Calls fullThenEnds = Edges.both(written(Edges.full(set), set), x -> x.clear(set, 1, 510));
            Edges.makes(fullThenEmpty, 0, Edges.only(set, "", ""), "write", set);
            Edges.makes(emptyThenFull, 0, Edges.only(set, Edges.ALL, Edges.ALL), "write", set);
            Edges.makes(fullThenEnds, 0, Edges.only(set, "0 511", "0 511"), "write", set);
            int other = (set + 1) % 3;
            Check.Calls fromAnother = written(Edges.full(other), other);
            Edges.makes(fromAnother, 0, Edges.only(other, Edges.ALL, ""), "write", set);
        });
    }

    private static void writesAnswerZero(int set) {
        Check.sentence("Promise 10: otherwise 0", () -> {
            Check.dueAfter("write of an empty set", Edges.NEW, x -> x.write(set), 0);
            Check.dueAfter("write of a full set", Edges.full(set), x -> x.write(set), 0);
            Check.dueAfter("write a second time", written(Edges.full(set), set), x -> x.write(set), 0);
        });
    }

    private static void anEmptyTape(int set) {
        Check.sentence("Promise 11: -2 if the tape is empty", () -> {
            int other = (set + 1) % 3;
            Edges.makes(Edges.NEW, -2, Edges.only(set, ""), "read", set);
            Edges.makes(Edges.full(set), -2, Edges.only(set, Edges.ALL), "read", set);
            Edges.makes(Edges.full(other), -2, Edges.only(other, Edges.ALL), "read", set);
            Edges.makes(x -> x.read(set), -2, Edges.only(set, ""), "read", set);
            Edges.makes(x -> x.write(-1), -2, Edges.only(set, ""), "read", set);
            Edges.makes(x -> x.write(3), -2, Edges.only(set, ""), "read", set);
        });
    }

    private static void aWrittenEmptySet(int set) {
        Check.sentence("Terms: TAPE, which is empty or holds a written set: an empty one, too", () -> {
            for (int from = 0; from < 3; from++) {
                Check.Calls before = Edges.both(written(Edges.NEW, from), Edges.full(set));
                Edges.makes(before, 0, Edges.only(set, "", ""), "read", set);
                Edges.makes(written(Edges.NEW, from), 0, Edges.only(set, "", ""), "read", set);
            }
            Check.Calls cleared = written(Edges.both(Edges.full(set), x -> x.clear(set, 0, 511)), set);
            Edges.makes(cleared, 0, Edges.only(set, "", ""), "read", set);
        });
    }

    private static void becomes(int set) {
        Check.sentence("Promise 11: The set becomes the one that was written to the tape last", () -> {
            Check.Calls ends = written(Edges.just(set, 0, 511), set);
            Edges.makes(Edges.both(ends, Edges.full(set)), 2, Edges.only(set, "0 511", "0 511"), "read", set);
            Edges.makes(Edges.both(ends, x -> x.flip(set, 0, 511)), 2, Edges.only(set, "0 511", "0 511"), "read", set);
            Edges.makes(Edges.both(ends, x -> x.clear(set, 0, 511)), 2, Edges.only(set, "0 511", "0 511"), "read", set);
            Edges.makes(Edges.both(ends, x -> x.read(set)), 2, Edges.only(set, "0 511", "0 511"), "read", set);
            Edges.makes(Edges.both(ends, x -> x.write(3)), 2, Edges.only(set, "0 511", "0 511"), "read", set);
            int other = (set + 1) % 3;
            Check.Calls twice = Edges.both(ends, written(Edges.full(other), other));
            Check.Calls thenCleared = Edges.both(twice, x -> x.clear(other, 0, 511));
            Edges.makes(thenCleared, 512, Edges.only(set, Edges.ALL, Edges.ALL), "read", set);
        });
    }

    private static void answersTheSize(int set) {
        Check.sentence("Promise 11: otherwise answers how many numbers the set has now", () -> {
            int other = (set + 2) % 3;
            Check.Calls one = Edges.both(written(Edges.just(other, 511), other), x -> x.remove(other, 511));
            Check.Calls all = Edges.both(written(Edges.full(other), other), x -> x.clear(other, 0, 511));
            Check.Calls none = Edges.both(written(Edges.NEW, other), Edges.just(set, 0));
            Edges.makes(one, 1, Edges.only(set, "511", "511"), "read", set);
            Edges.makes(all, 512, Edges.only(set, Edges.ALL, Edges.ALL), "read", set);
            Edges.makes(none, 0, Edges.only(set, "", ""), "read", set);
        });
    }
}
