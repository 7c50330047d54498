/** Promises 10 and 11. */
public final class TapeTest {
    public static void main(String[] args) {
        writesAndReads();
        laterChangesDoNotTouchTheTape();
        theLastWriteCounts();
        everySetToEverySet();
        Check.end();
    }

    private static void writesAndReads() {
        RoaringCodec x = new RoaringCodec();
        Check.due("read(0) of an empty tape", x.read(0), -2);
        Check.due("read(2) of an empty tape", x.read(2), -2);
        x.fill(0, 10, 20);
        x.add(1, 400);
        Check.due("write(0)", x.write(0), 0);
        Check.due("read(1)", x.read(1), 11);
        Check.due("read(1) again", x.read(1), 11);
        Check.due("has(1, 400)", x.has(1, 400), 0);
        Check.due("same(0, 1)", x.same(0, 1), 1);
    }

    private static void laterChangesDoNotTouchTheTape() {
        Check.due("state", Check.state(x -> {
            x.fill(0, 10, 20);
            x.write(0);
            x.flip(0, 0, 511);
            x.read(1);
            x.remove(1, 15);
            x.read(2);
            x.shift(2, 1);
        }), "0-9 21-511 | 10-14 16-20 | 11-21 | tape 10-20");
    }

    private static void theLastWriteCounts() {
        Check.due("state", Check.state(x -> {
            x.fill(0, 0, 511);
            x.sow(1, 0, 256 * 2 + 3);
            x.write(0);
            x.write(1);
        }), "0-511 | 0 2 4 |  | tape 0 2 4");
    }

    private static void everySetToEverySet() {
        for (int from = 0; from < 3; from++) {
            for (int to = 0; to < 3; to++) {
                int f = from;
                int t = to;
                Check.Calls calls = x -> {
                    x.fill(0, 0, 511);
                    x.fill(1, 0, 511);
                    x.fill(2, 0, 511);
                    x.clear(f, 1, 509);
                    x.write(f);
                    x.clear(f, 0, 511);
                };
                String what = "write(" + f + ") and read(" + t + ")";
                Check.dueAfter(what, calls, x -> x.read(t), 3);
                Check.holds(what, x -> {
                    calls.on(x);
                    x.read(t);
                }, t, "0 510-511");
            }
        }
    }
}
