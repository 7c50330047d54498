/** One call by its name and arguments, so that it can be told, and made on any object. */
final class Call {
    static final String[] CHANGES = {
        "add", "remove", "fill", "clear", "flip", "sow", "join", "shift", "write", "read"};
    static final String[] QUESTIONS = {
        "has", "size", "rank", "select", "next", "previous", "gap", "runs", "common", "within", "same"};

    final String name;
    final int p;
    final int q;
    final int r;

    /** A method that takes fewer arguments than are given leaves the last ones aside. */
    Call(String name, int... args) {
        this.name = name;
        p = args[0];
        q = args.length > 1 ? args[1] : 0;
        r = args.length > 2 ? args[2] : 0;
    }

    static int arguments(String name) {
        switch (name) {
            case "size": case "runs": case "write": case "read": return 1;
            case "fill": case "clear": case "flip": case "sow": case "join": return 3;
            default: return 2;
        }
    }

    int on(RoaringCodec x) {
        switch (name) {
            case "add": return x.add(p, q);
            case "remove": return x.remove(p, q);
            case "fill": return x.fill(p, q, r);
            case "clear": return x.clear(p, q, r);
            case "flip": return x.flip(p, q, r);
            case "sow": return x.sow(p, q, r);
            case "join": return x.join(p, q, r);
            case "shift": return x.shift(p, q);
            case "write": return x.write(p);
            case "read": return x.read(p);
            case "has": return x.has(p, q);
            case "size": return x.size(p);
            case "rank": return x.rank(p, q);
            case "select": return x.select(p, q);
            case "next": return x.next(p, q);
            case "previous": return x.previous(p, q);
            case "gap": return x.gap(p, q);
            case "runs": return x.runs(p);
            case "common": return x.common(p, q);
            case "within": return x.within(p, q);
            case "same": return x.same(p, q);
            default: throw new IllegalArgumentException("no method " + name);
        }
    }

    @Override
    public String toString() {
        int count = arguments(name);
        return name + "(" + p + (count > 1 ? ", " + q : "") + (count > 2 ? ", " + r : "") + ")";
    }
}
