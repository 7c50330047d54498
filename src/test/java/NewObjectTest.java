/** Promise 1. */
public final class NewObjectTest {
    public static void main(String[] args) {
        Check.sentence("Promise 1: Everything is empty at first", () -> {
            allIsEmpty();
            objectsShareNothing();
        });
        Check.end();
    }

    private static void allIsEmpty() {
        Check.due("the state of a new object", Check.state(x -> { }), " |  |  | tape empty");
        for (int set = 0; set < 3; set++) {
            int s = set;
            Check.dueAfter("size of a new set " + s, x -> { }, x -> x.size(s), 0);
            Check.dueAfter("runs of a new set " + s, x -> { }, x -> x.runs(s), 0);
            Check.dueAfter("next of a new set " + s, x -> { }, x -> x.next(s, 0), -2);
            Check.dueAfter("read of a new tape into set " + s, x -> { }, x -> x.read(s), -2);
        }
    }

    private static void objectsShareNothing() {
        RoaringCodec one = new RoaringCodec();
        RoaringCodec other = new RoaringCodec();
        one.fill(0, 0, 511);
        one.write(0);
        Check.due("size of an object beside a full one", other.size(0), 0);
        Check.due("read of an object beside a written one", other.read(0), -2);
        Check.due("state of an object made after a full one", Check.state(x -> { }), " |  |  | tape empty");
    }
}
