/** Promises 2 and 3. */
public final class AddRemoveTest {
    public static void main(String[] args) {
        adds();
        removes();
        everyNumberOfEverySet();
        Check.end();
    }

    private static void adds() {
        RoaringCodec x = new RoaringCodec();
        Check.due("add(0, 7)", x.add(0, 7), 1);
        Check.due("add(0, 7) again", x.add(0, 7), 0);
        Check.due("add(1, 7)", x.add(1, 7), 1);
        Check.due("size(0)", x.size(0), 1);
        Check.due("size(2)", x.size(2), 0);
        Check.due("state", Check.state(y -> {
            y.add(0, 7);
            y.add(0, 0);
            y.add(0, 7);
            y.add(2, 511);
        }), "0 7 |  | 511 | tape empty");
    }

    private static void removes() {
        RoaringCodec x = new RoaringCodec();
        Check.due("remove(0, 7) of an empty set", x.remove(0, 7), 0);
        x.add(0, 7);
        x.add(1, 7);
        Check.due("remove(0, 8)", x.remove(0, 8), 0);
        Check.due("remove(0, 7)", x.remove(0, 7), 1);
        Check.due("remove(0, 7) again", x.remove(0, 7), 0);
        Check.due("has(1, 7)", x.has(1, 7), 1);
        Check.due("add(0, 7) once more", x.add(0, 7), 1);
        Check.due("state", Check.state(y -> {
            y.fill(1, 0, 511);
            y.fill(2, 0, 511);
            y.remove(1, 0);
            y.remove(1, 511);
            y.remove(1, 64);
            y.remove(1, 64);
        }), " | 1-63 65-510 | 0-511 | tape empty");
    }

    private static void everyNumberOfEverySet() {
        for (int set = 0; set < 3; set++) {
            for (int number = 0; number < Check.NUMBERS; number++) {
                String what = "(" + set + ", " + number + ")";
                RoaringCodec x = new RoaringCodec();
                Check.due("add" + what, x.add(set, number), 1);
                Check.due("next" + what, x.next(set, 0), number);
                Check.due("size" + what, x.size(0) + x.size(1) + x.size(2), 1);
                Check.due("add again" + what, x.add(set, number), 0);
                Check.due("remove" + what, x.remove(set, number), 1);
                Check.due("remove again" + what, x.remove(set, number), 0);
                Check.due("size after" + what, x.size(set), 0);
            }
        }
    }
}
