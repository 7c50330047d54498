/** Three sets of the numbers 0 .. 511, and one tape that a set is written to and read from. */
public final class RoaringCodec {
    private static final int SETS = 3;
    private static final int NUMBERS = 512;
    private static final int GREATEST_STEP = 100;
    private static final int GREATEST_COUNT = 200;
    private static final int RULE_BASE = 256;

    private static final int BOTH = 0;
    private static final int EITHER = 1;
    private static final int JUST_ONE = 2;
    private static final int LEFT_ONLY = 3;

    // Set s holds number n if the place s * NUMBERS + n is true.
    private final boolean[] members = new boolean[SETS * NUMBERS];
    private final boolean[] tape = new boolean[NUMBERS];

    // An empty set can be written too, so the tape's places don't tell whether it is empty.
    private boolean tapeWritten;

    public RoaringCodec() {
        tapeWritten = false;
    }

    public int add(int set, int number) {
        if (!isSet(set)) {
            return -1;
        }
        if (!isNumber(number)) {
            return -2;
        }
        return assign(set, number, number, true);
    }

    public int remove(int set, int number) {
        if (!isSet(set)) {
            return -1;
        }
        if (!isNumber(number)) {
            return -2;
        }
        return assign(set, number, number, false);
    }

    public int fill(int set, int first, int last) {
        if (!isSet(set)) {
            return -1;
        }
        if (!isRange(first, last)) {
            return -2;
        }
        return assign(set, first, last, true);
    }

    public int clear(int set, int first, int last) {
        if (!isSet(set)) {
            return -1;
        }
        if (!isRange(first, last)) {
            return -2;
        }
        return assign(set, first, last, false);
    }

    public int flip(int set, int first, int last) {
        if (!isSet(set)) {
            return -1;
        }
        if (!isRange(first, last)) {
            return -2;
        }
        int base = set * NUMBERS;
        for (int number = first; number <= last; number++) {
            members[base + number] = !members[base + number];
        }
        return countBelow(set, NUMBERS);
    }

    public int sow(int set, int first, int rule) {
        if (!isSet(set)) {
            return -1;
        }
        if (!isNumber(first)) {
            return -2;
        }
        // A negative rule's quotient is 0 or less, so the test of the step refuses it too.
        int step = rule / RULE_BASE;
        int count = rule % RULE_BASE;
        if (step < 1 || step > GREATEST_STEP) {
            return -3;
        }
        if (count < 1 || count > GREATEST_COUNT) {
            return -4;
        }
        int base = set * NUMBERS;
        for (int i = 0; i < count; i++) {
            int number = first + i * step;
            if (number < NUMBERS) {
                members[base + number] = true;
            }
        }
        return countBelow(set, NUMBERS);
    }

    public int join(int kind, int a, int b) {
        if (kind < BOTH || kind > LEFT_ONLY) {
            return -1;
        }
        if (!isSet(a) || !isSet(b)) {
            return -2;
        }
        int baseA = a * NUMBERS;
        int baseB = b * NUMBERS;
        for (int number = 0; number < NUMBERS; number++) {
            boolean inA = members[baseA + number];
            boolean inB = members[baseB + number];
            members[baseA + number] = isJoined(kind, inA, inB);
        }
        return countBelow(a, NUMBERS);
    }

    public int shift(int set, int by) {
        if (!isSet(set)) {
            return -1;
        }
        if (by <= -NUMBERS || by >= NUMBERS) {
            return -2;
        }
        if (by > 0) {
            moveUp(set, by);
        } else {
            moveDown(set, -by);
        }
        return countBelow(set, NUMBERS);
    }

    public int write(int set) {
        if (!isSet(set)) {
            return -1;
        }
        int base = set * NUMBERS;
        for (int number = 0; number < NUMBERS; number++) {
            tape[number] = members[base + number];
        }
        tapeWritten = true;
        return 0;
    }

    public int read(int set) {
        if (!isSet(set)) {
            return -1;
        }
        if (!tapeWritten) {
            return -2;
        }
        int base = set * NUMBERS;
        for (int number = 0; number < NUMBERS; number++) {
            members[base + number] = tape[number];
        }
        return countBelow(set, NUMBERS);
    }

    public int has(int set, int number) {
        if (!isSet(set)) {
            return -1;
        }
        if (!isNumber(number)) {
            return -2;
        }
        return members[set * NUMBERS + number] ? 1 : 0;
    }

    public int size(int set) {
        if (!isSet(set)) {
            return -1;
        }
        return countBelow(set, NUMBERS);
    }

    public int rank(int set, int bound) {
        if (!isSet(set)) {
            return -1;
        }
        return countBelow(set, bound);
    }

    public int select(int set, int k) {
        if (!isSet(set)) {
            return -1;
        }
        if (k < 0) {
            return -2;
        }
        int base = set * NUMBERS;
        int less = 0;
        for (int number = 0; number < NUMBERS; number++) {
            if (members[base + number]) {
                if (less == k) {
                    return number;
                }
                less++;
            }
        }
        return -2;
    }

    public int next(int set, int from) {
        if (!isSet(set)) {
            return -1;
        }
        int base = set * NUMBERS;
        int start = from < 0 ? 0 : from;
        for (int number = start; number < NUMBERS; number++) {
            if (members[base + number]) {
                return number;
            }
        }
        return -2;
    }

    public int previous(int set, int to) {
        if (!isSet(set)) {
            return -1;
        }
        int base = set * NUMBERS;
        int start = to >= NUMBERS ? NUMBERS - 1 : to;
        for (int number = start; number >= 0; number--) {
            if (members[base + number]) {
                return number;
            }
        }
        return -2;
    }

    public int gap(int set, int from) {
        if (!isSet(set)) {
            return -1;
        }
        if (!isNumber(from)) {
            return -2;
        }
        int base = set * NUMBERS;
        for (int number = from; number < NUMBERS; number++) {
            if (!members[base + number]) {
                return number;
            }
        }
        return -3;
    }

    public int runs(int set) {
        if (!isSet(set)) {
            return -1;
        }
        int base = set * NUMBERS;
        int starts = 0;
        boolean before = false;
        for (int number = 0; number < NUMBERS; number++) {
            boolean here = members[base + number];
            if (here && !before) {
                starts++;
            }
            before = here;
        }
        return starts;
    }

    public int common(int a, int b) {
        if (!isSet(a) || !isSet(b)) {
            return -1;
        }
        return countJoined(BOTH, a, b);
    }

    public int within(int a, int b) {
        if (!isSet(a) || !isSet(b)) {
            return -1;
        }
        return countJoined(LEFT_ONLY, a, b) == 0 ? 1 : 0;
    }

    public int same(int a, int b) {
        if (!isSet(a) || !isSet(b)) {
            return -1;
        }
        return countJoined(JUST_ONE, a, b) == 0 ? 1 : 0;
    }

    private static boolean isSet(int set) {
        return set >= 0 && set < SETS;
    }

    private static boolean isNumber(int number) {
        return number >= 0 && number < NUMBERS;
    }

    private static boolean isRange(int first, int last) {
        return first >= 0 && first <= last && last < NUMBERS;
    }

    private static boolean isJoined(int kind, boolean inA, boolean inB) {
        switch (kind) {
            case BOTH:
                return inA && inB;
            case EITHER:
                return inA || inB;
            case JUST_ONE:
                return inA != inB;
            default:
                return inA && !inB;
        }
    }

    /** Answers how many numbers of the range were changed by it. */
    private int assign(int set, int first, int last, boolean present) {
        int base = set * NUMBERS;
        int changed = 0;
        for (int number = first; number <= last; number++) {
            if (members[base + number] != present) {
                members[base + number] = present;
                changed++;
            }
        }
        return changed;
    }

    private int countBelow(int set, int bound) {
        int base = set * NUMBERS;
        int end = bound > NUMBERS ? NUMBERS : bound;
        int count = 0;
        for (int number = 0; number < end; number++) {
            if (members[base + number]) {
                count++;
            }
        }
        return count;
    }

    private int countJoined(int kind, int a, int b) {
        int baseA = a * NUMBERS;
        int baseB = b * NUMBERS;
        int count = 0;
        for (int number = 0; number < NUMBERS; number++) {
            boolean inA = members[baseA + number];
            boolean inB = members[baseB + number];
            if (isJoined(kind, inA, inB)) {
                count++;
            }
        }
        return count;
    }

    /** Goes from the greatest number down, so that no place is written before it has been read. */
    private void moveUp(int set, int distance) {
        int base = set * NUMBERS;
        for (int number = NUMBERS - 1; number >= 0; number--) {
            int source = number - distance;
            members[base + number] = source >= 0 && members[base + source];
        }
    }

    /** Goes from the least number up, so that no place is written before it has been read. */
    private void moveDown(int set, int distance) {
        int base = set * NUMBERS;
        for (int number = 0; number < NUMBERS; number++) {
            int source = number + distance;
            members[base + number] = source < NUMBERS && members[base + source];
        }
    }
}
