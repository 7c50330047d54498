/** Promises 4, 5 and 6. */
public final class RangesTest {
    public static void main(String[] args) {
        fills();
        clears();
        flips();
        Check.end();
    }

    private static void fills() {
        RoaringCodec x = new RoaringCodec();
        Check.due("fill(1, 10, 20)", x.fill(1, 10, 20), 11);
        Check.due("fill(1, 10, 20) again", x.fill(1, 10, 20), 0);
        Check.due("fill(1, 15, 25)", x.fill(1, 15, 25), 5);
        Check.due("fill(1, 0, 511)", x.fill(1, 0, 511), 496);
        Check.due("fill(0, 0, 511)", x.fill(0, 0, 511), 512);
        Check.due("state", Check.state(y -> {
            y.fill(1, 10, 20);
            y.fill(1, 22, 30);
            y.fill(1, 25, 40);
        }), " | 10-20 22-40 |  | tape empty");
    }

    private static void clears() {
        RoaringCodec x = new RoaringCodec();
        Check.due("clear(1, 0, 511) of an empty set", x.clear(1, 0, 511), 0);
        x.fill(0, 0, 511);
        x.fill(1, 10, 20);
        Check.due("clear(1, 15, 100)", x.clear(1, 15, 100), 6);
        Check.due("clear(1, 15, 100) again", x.clear(1, 15, 100), 0);
        Check.due("clear(1, 0, 511)", x.clear(1, 0, 511), 5);
        Check.due("clear(0, 0, 511)", x.clear(0, 0, 511), 512);
        Check.due("state", Check.state(y -> {
            y.fill(0, 0, 511);
            y.fill(1, 0, 511);
            y.clear(1, 10, 20);
            y.clear(1, 15, 30);
        }), "0-511 | 0-9 31-511 |  | tape empty");
    }

    private static void flips() {
        RoaringCodec x = new RoaringCodec();
        Check.due("flip(2, 10, 20)", x.flip(2, 10, 20), 11);
        Check.due("flip(2, 15, 30)", x.flip(2, 15, 30), 15);
        Check.due("flip(2, 0, 511)", x.flip(2, 0, 511), 497);
        Check.due("flip(2, 0, 511) again", x.flip(2, 0, 511), 15);
        Check.due("state", Check.state(y -> {
            y.flip(2, 10, 20);
            y.flip(2, 15, 30);
            y.flip(0, 3, 3);
        }), "3 |  | 10-14 21-30 | tape empty");
    }
}
