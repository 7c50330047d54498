import java.util.ArrayList;
import java.util.List;
import java.util.TreeSet;

/** The document again, over the library's sorted sets: slow, and written apart from the class. */
final class Model {
    private final List<TreeSet<Integer>> sets = List.of(new TreeSet<>(), new TreeSet<>(), new TreeSet<>());
    private TreeSet<Integer> tape = null;

    int due(Call call) {
        switch (call.name) {
            case "join": return dueOfJoin(call.p, call.q, call.r);
            case "common": case "within": case "same": return dueOfPair(call.name, call.p, call.q);
            default: return isSet(call.p) ? dueOfSet(call.name, sets.get(call.p), call.q, call.r) : -1;
        }
    }

    private int dueOfSet(String name, TreeSet<Integer> set, int q, int r) {
        switch (name) {
            case "add": return !isNumber(q) ? -2 : set.add(q) ? 1 : 0;
            case "remove": return !isNumber(q) ? -2 : set.remove(q) ? 1 : 0;
            case "fill": case "clear": case "flip": return dueOfRange(name, set, q, r);
            case "sow": return dueOfSow(set, q, r);
            case "shift": return dueOfShift(set, q);
            case "write": tape = new TreeSet<>(set); return 0;
            case "read": return tape == null ? -2 : become(set, tape);
            default: return dueOfQuestion(name, set, q);
        }
    }

    private static int dueOfQuestion(String name, TreeSet<Integer> set, int q) {
        switch (name) {
            case "has": return !isNumber(q) ? -2 : set.contains(q) ? 1 : 0;
            case "size": return set.size();
            case "rank": return set.headSet(q).size();
            case "select": return q < 0 || q >= set.size() ? -2 : new ArrayList<>(set).get(q);
            case "next": return orRefuse(set.ceiling(q));
            case "previous": return orRefuse(set.floor(q));
            case "gap": return dueOfGap(set, q);
            default: return (int) set.stream().filter(n -> !set.contains(n + 1)).count();
        }
    }

    private static int dueOfRange(String name, TreeSet<Integer> set, int first, int last) {
        if (!isNumber(first) || !isNumber(last) || first > last) {
            return -2;
        }
        int before = set.size();
        for (int n = first; n <= last; n++) {
            boolean goesOut = name.equals("clear") || name.equals("flip") && set.contains(n);
            if (goesOut) {
                set.remove(n);
            } else {
                set.add(n);
            }
        }
        return name.equals("flip") ? set.size() : Math.abs(set.size() - before);
    }

    private static int dueOfSow(TreeSet<Integer> set, int first, int rule) {
        int step = Math.floorDiv(rule, 256);
        int count = Math.floorMod(rule, 256);
        if (!isNumber(first)) {
            return -2;
        }
        if (step < 1 || step > 100) {
            return -3;
        }
        if (count < 1 || count > 200) {
            return -4;
        }
        for (int n = first; n <= 511 && count > 0; n += step) {
            set.add(n);
            count--;
        }
        return set.size();
    }

    private static int dueOfShift(TreeSet<Integer> set, int by) {
        if (by < -511 || by > 511) {
            return -2;
        }
        TreeSet<Integer> moved = new TreeSet<>();
        for (int n : set) {
            if (isNumber(n + by)) {
                moved.add(n + by);
            }
        }
        return become(set, moved);
    }

    private static int dueOfGap(TreeSet<Integer> set, int from) {
        if (!isNumber(from)) {
            return -2;
        }
        int n = from;
        while (set.contains(n)) {
            n++;
        }
        return n > 511 ? -3 : n;
    }

    private int dueOfJoin(int kind, int a, int b) {
        if (kind < 0 || kind > 3) {
            return -1;
        }
        if (!isSet(a) || !isSet(b)) {
            return -2;
        }
        TreeSet<Integer> both = both(a, b);
        TreeSet<Integer> result = new TreeSet<>(sets.get(a));
        if (kind == 0) {
            result.retainAll(both);
        }
        if (kind == 1 || kind == 2) {
            result.addAll(sets.get(b));
        }
        if (kind == 2 || kind == 3) {
            result.removeAll(both);
        }
        return become(sets.get(a), result);
    }

    private int dueOfPair(String name, int a, int b) {
        if (!isSet(a) || !isSet(b)) {
            return -1;
        }
        switch (name) {
            case "common": return both(a, b).size();
            case "within": return sets.get(b).containsAll(sets.get(a)) ? 1 : 0;
            default: return sets.get(a).equals(sets.get(b)) ? 1 : 0;
        }
    }

    private TreeSet<Integer> both(int a, int b) {
        TreeSet<Integer> both = new TreeSet<>(sets.get(a));
        both.retainAll(sets.get(b));
        return both;
    }

    private static int become(TreeSet<Integer> set, TreeSet<Integer> other) {
        TreeSet<Integer> copy = new TreeSet<>(other);
        set.clear();
        set.addAll(copy);
        return set.size();
    }

    private static int orRefuse(Integer number) {
        return number == null ? -2 : number;
    }

    private static boolean isSet(int set) {
        return set >= 0 && set <= 2;
    }

    private static boolean isNumber(int number) {
        return number >= 0 && number <= 511;
    }
}
