import java.util.ArrayList;
import java.util.Collections;
import java.util.List;

/** Runs of 512 mixed calls, the most an object is used for, each answer compared with the model's. */
public final class LongRunsTest {
    private static final int RUNS = 600;
    private static final int CALLS = 512;
    private static final int[] EDGES = {
        0, 1, 2, 3, 63, 64, 65, 127, 128, 129, 255, 256, 257, 383, 384, 510, 511, 512, 513, -1, -2, -511, -512,
        Integer.MIN_VALUE, Integer.MAX_VALUE};

    private static final List<String> NAMES = new ArrayList<>();

    private static long seed;

    public static void main(String[] args) {
        Collections.addAll(NAMES, Call.CHANGES);
        Collections.addAll(NAMES, Call.QUESTIONS);
        for (int run = 1; run <= RUNS; run++) {
            seed = run;
            oneRun(run);
        }
        Check.end();
    }

    private static void oneRun(int run) {
        RoaringCodec x = new RoaringCodec();
        Model model = new Model();
        for (int call = 1; call <= CALLS; call++) {
            Call next = nextCall();
            String what = "run " + run + ", call " + call + ": " + next;
            Check.due(what, next.on(x), model.due(next));
        }
    }

    private static Call nextCall() {
        String name = NAMES.get(below(NAMES.size()));
        int p = name.equals("join") ? below(12) == 0 ? edge() : below(4) : set();
        int q = isOfTwoSets(name) ? set() : number();
        int r = name.equals("join") ? set() : name.equals("sow") ? rule() : number();
        if (name.equals("shift")) {
            q = below(8) == 0 ? edge() : below(41) - 20;
        } else if (isOfRange(name) && q >= 0 && q < 512 && below(12) != 0) {
            r = q + below(Math.min(60, 512 - q));
        }
        return new Call(name, p, q, r);
    }

    private static boolean isOfTwoSets(String name) {
        return "join common within same".contains(name);
    }

    private static boolean isOfRange(String name) {
        return "fill clear flip".contains(name);
    }

    // A fixed sequence, so that every run of the tests makes the same calls.
    private static int below(int bound) {
        seed = seed * 6364136223846793005L + 1442695040888963407L;
        return (int) ((seed >>> 33) % bound);
    }

    private static int edge() {
        return EDGES[below(EDGES.length)];
    }

    private static int set() {
        return below(30) == 0 ? edge() : below(3);
    }

    private static int number() {
        return below(6) == 0 ? edge() : below(512);
    }

    private static int rule() {
        return below(10) == 0 ? edge() * 256 + edge() : 256 * below(102) + below(40);
    }
}
