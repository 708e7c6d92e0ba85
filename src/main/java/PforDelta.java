/**
 * Two ascending lists of numbers, measured as if they were kept in packed blocks of gap codes.
 *
 * The numbers themselves are held, not the packed bits: the document leaves the inner form free, and
 * every size it asks for follows from the numbers alone.
 */
public final class PforDelta {
    public static final int BAD_ARG = -1;
    public static final int FULL = -2;
    public static final int NONE = -4;

    private static final int LISTS = 2;
    private static final int CAPACITY = 64;
    private static final int CELLS = 128;
    private static final int GREATEST = 1000000;
    private static final int GREATEST_STEP = 1000;
    private static final int BLOCK_PLACES = 8;
    private static final int GREATEST_BASE = 20;
    private static final int BLOCK_COST = 9;
    private static final int WIDE_CODE_COST = 8;
    private static final int GREATEST_WIDTH = 31;

    /** List l stands in the cells from l * CAPACITY on, so that one array serves both lists. */
    private final int[] cells = new int[CELLS];
    private final int[] counts = new int[LISTS];

    public PforDelta() {
    }

    public int append(int l, int x) {
        if (!isList(l) || !isNumber(x) || x <= lastNumber(l)) {
            return BAD_ARG;
        }
        if (counts[l] >= CAPACITY) {
            return FULL;
        }
        putLast(l, x);
        return counts[l];
    }

    public int run(int l, int n, int step) {
        if (!isList(l) || n < 0 || n > CAPACITY || step < 1 || step > GREATEST_STEP) {
            return BAD_ARG;
        }
        if (counts[l] + n > CAPACITY) {
            return FULL;
        }
        int last = lastNumber(l);
        if (last + n * step > GREATEST) {
            return BAD_ARG;
        }
        for (int k = 1; k <= n; k++) {
            putLast(l, last + k * step);
        }
        return counts[l];
    }

    public int insert(int l, int x) {
        if (!isList(l) || !isNumber(x)) {
            return BAD_ARG;
        }
        int place = countBelow(l, x);
        if (isAtPlace(l, place, x)) {
            return NONE;
        }
        if (counts[l] >= CAPACITY) {
            return FULL;
        }
        openPlace(l, place);
        cells[l * CAPACITY + place] = x;
        return place;
    }

    public int remove(int l, int x) {
        if (!isList(l)) {
            return BAD_ARG;
        }
        int place = countBelow(l, x);
        if (!isAtPlace(l, place, x)) {
            return NONE;
        }
        closePlace(l, place);
        return place;
    }

    public int clear(int l) {
        if (!isList(l)) {
            return BAD_ARG;
        }
        int had = counts[l];
        counts[l] = 0;
        return had;
    }

    public int size(int l) {
        if (!isList(l)) {
            return BAD_ARG;
        }
        return counts[l];
    }

    public int at(int l, int i) {
        if (!isList(l)) {
            return BAD_ARG;
        }
        if (i < 0 || i >= counts[l]) {
            return NONE;
        }
        return cells[l * CAPACITY + i];
    }

    public int seek(int l, int x) {
        if (!isList(l)) {
            return BAD_ARG;
        }
        int place = countBelow(l, x);
        return place < counts[l] ? place : NONE;
    }

    public boolean has(int l, int x) {
        return isList(l) && contains(l, x);
    }

    public int sum(int l, int i, int j) {
        if (!isList(l)) {
            return BAD_ARG;
        }
        int total = 0;
        for (int place = 0; place < counts[l]; place++) {
            if (place >= i && place <= j) {
                total += cells[l * CAPACITY + place];
            }
        }
        return total;
    }

    public int blocks(int l) {
        if (!isList(l)) {
            return BAD_ARG;
        }
        return blockCount(l);
    }

    public int base(int l, int b) {
        if (!isList(l)) {
            return BAD_ARG;
        }
        if (!isBlock(l, b)) {
            return NONE;
        }
        int least = leastSize(l, b);
        return leastBaseOfSize(l, b, least);
    }

    public int blockSize(int l, int b) {
        if (!isList(l)) {
            return BAD_ARG;
        }
        if (!isBlock(l, b)) {
            return NONE;
        }
        return leastSize(l, b);
    }

    public int packed() {
        int total = 0;
        for (int l = 0; l < LISTS; l++) {
            int end = blockCount(l);
            for (int b = 0; b < end; b++) {
                total += leastSize(l, b);
            }
        }
        return total;
    }

    public int common() {
        int found = 0;
        for (int place = 0; place < counts[0]; place++) {
            if (contains(1, cells[place])) {
                found++;
            }
        }
        return found;
    }

    public int commonAt(int k) {
        int found = 0;
        for (int place = 0; place < counts[0]; place++) {
            if (contains(1, cells[place])) {
                if (found == k) {
                    return cells[place];
                }
                found++;
            }
        }
        return NONE;
    }

    public int tail(int l) {
        if (!isList(l)) {
            return BAD_ARG;
        }
        int least = NONE;
        for (int place = counts[l] - 1; place >= 0; place--) {
            int x = cells[l * CAPACITY + place];
            if (!contains(1 - l, x)) {
                return least;
            }
            least = x;
        }
        return least;
    }

    private static boolean isList(int l) {
        return l >= 0 && l < LISTS;
    }

    private static boolean isNumber(int x) {
        return x >= 0 && x <= GREATEST;
    }

    /**
     * An empty list answers -1, the number that makes the first gap "first number plus 1"; so the
     * first number needs no case of its own in append, run and codeAt.
     */
    private int lastNumber(int l) {
        return numberBefore(l, counts[l]);
    }

    private int numberBefore(int l, int place) {
        return place > 0 ? cells[l * CAPACITY + place - 1] : -1;
    }

    private void putLast(int l, int x) {
        cells[l * CAPACITY + counts[l]] = x;
        counts[l]++;
    }

    private void openPlace(int l, int place) {
        int start = l * CAPACITY;
        // From the end down: upwards, each number would be written over before it is moved.
        for (int i = counts[l]; i > place; i--) {
            cells[start + i] = cells[start + i - 1];
        }
        counts[l]++;
    }

    private void closePlace(int l, int place) {
        int start = l * CAPACITY;
        counts[l]--;
        for (int i = place; i < counts[l]; i++) {
            cells[start + i] = cells[start + i + 1];
        }
    }

    private int countBelow(int l, int x) {
        int place = 0;
        while (place < counts[l] && cells[l * CAPACITY + place] < x) {
            place++;
        }
        return place;
    }

    private boolean isAtPlace(int l, int place, int x) {
        return place < counts[l] && cells[l * CAPACITY + place] == x;
    }

    private boolean contains(int l, int x) {
        int place = countBelow(l, x);
        return isAtPlace(l, place, x);
    }

    private int blockCount(int l) {
        return (counts[l] + BLOCK_PLACES - 1) / BLOCK_PLACES;
    }

    private boolean isBlock(int l, int b) {
        return b >= 0 && b < blockCount(l);
    }

    private int leastSize(int l, int b) {
        int least = sizeAtBase(l, b, 0);
        for (int w = 1; w <= GREATEST_BASE; w++) {
            int next = sizeAtBase(l, b, w);
            if (next < least) {
                least = next;
            }
        }
        return least;
    }

    /** Upwards from 0, since of all bases that give the same size the least one counts. */
    private int leastBaseOfSize(int l, int b, int wanted) {
        int w = 0;
        while (w < GREATEST_BASE && sizeAtBase(l, b, w) != wanted) {
            w++;
        }
        return w;
    }

    private int sizeAtBase(int l, int b, int w) {
        int bits = BLOCK_COST;
        int end = blockEnd(l, b);
        for (int place = b * BLOCK_PLACES; place < end; place++) {
            int code = codeAt(l, place);
            int width = widthOf(code);
            bits += width <= w ? w : w + WIDE_CODE_COST + (width - w);
        }
        return bits;
    }

    private int blockEnd(int l, int b) {
        int end = (b + 1) * BLOCK_PLACES;
        return end < counts[l] ? end : counts[l];
    }

    private int codeAt(int l, int place) {
        return cells[l * CAPACITY + place] - numberBefore(l, place) - 1;
    }

    private static int widthOf(int number) {
        int width = 0;
        while (width < GREATEST_WIDTH && number >> width != 0) {
            width++;
        }
        return width;
    }
}
