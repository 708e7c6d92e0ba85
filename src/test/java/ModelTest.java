import java.util.ArrayList;
import java.util.List;
import java.util.TreeSet;

/**
 * Long mixed runs of calls, each answer compared with a second program that is written from the
 * document over the Java library's sets. The calls are the same in every run of this test.
 */
public final class ModelTest {
    private static final int OBJECTS = 1200;
    private static final int CALLS = 512;
    private static final int[] EDGES = {Integer.MIN_VALUE, -1000001, -1, 0, 1, 999999, 1000000, 1000001,
        Integer.MAX_VALUE - 1, Integer.MAX_VALUE};

    private static long seed = 20261115L;

    private final List<TreeSet<Integer>> lists = List.of(new TreeSet<>(), new TreeSet<>());
    private final PforDelta x = new PforDelta();
    private final int top;
    private final int edgeShare;
    private final int growShare;

    private ModelTest(int top, int edgeShare, int growShare) {
        this.top = top;
        this.edgeShare = edgeShare;
        this.growShare = growShare;
    }

    public static void main(String[] args) {
        int[] tops = {12, 70, 90, 400, 5000, 1000000};
        for (int object = 0; object < OBJECTS; object++) {
            int top = tops[object % tops.length];
            int growShare = 30 + 10 * (object / tops.length % 4);
            ModelTest test = new ModelTest(top, 4, growShare);
            for (int call = 0; call < CALLS; call++) {
                test.callOnce();
            }
        }
        Check.finish();
    }

    /** A fixed sequence: a linear congruence, of which the high bits are used. */
    private static int next(int bound) {
        seed = seed * 6364136223846793005L + 1442695040888963407L;
        return (int) ((seed >>> 33) % bound);
    }

    private void callOnce() {
        int l = next(40) == 0 ? edge() : next(2);
        if (next(100) < growShare) {
            change(l);
        } else if (next(2) == 0) {
            askNumbers(l);
        } else {
            askBlocksAndMeeting(l);
        }
    }

    private static int edge() {
        return next(3) == 0 ? 2 : EDGES[next(EDGES.length)];
    }

    private int number() {
        int kind = next(100);
        if (kind < edgeShare) {
            return EDGES[next(EDGES.length)];
        }
        if (kind < 30 && !lists.get(0).isEmpty()) {
            return near(lists.get(0));
        }
        if (kind < 56 && !lists.get(1).isEmpty()) {
            return near(lists.get(1));
        }
        return kind < 60 ? 1000000 - next(top + 1) : next(top + 1);
    }

    private static int near(TreeSet<Integer> list) {
        return new ArrayList<>(list).get(next(list.size())) + (next(3) == 0 ? next(3) - 1 : 0);
    }

    private int place(int bound) {
        return next(20) == 0 ? EDGES[next(EDGES.length)] : next(bound + 4) - 2;
    }

    private void change(int l) {
        int kind = next(100);
        if (kind < 25) {
            int n = number();
            Check.due("append(" + l + ", " + n + ")", x.append(l, n), append(l, n));
        } else if (kind < 35) {
            int n = next(10) == 0 ? next(70) - 3 : next(5) == 0 ? EDGES[next(EDGES.length)] : next(9);
            int step = next(10) == 0 ? 998 + next(5) : next(12) == 0 ? EDGES[next(EDGES.length)] : 1 + next(4);
            Check.due("run(" + l + ", " + n + ", " + step + ")", x.run(l, n, step), run(l, n, step));
        } else if (kind < 75) {
            int n = number();
            Check.due("insert(" + l + ", " + n + ")", x.insert(l, n), insert(l, n));
        } else if (kind < 98) {
            int n = number();
            Check.due("remove(" + l + ", " + n + ")", x.remove(l, n), remove(l, n));
        } else {
            Check.due("clear(" + l + ")", x.clear(l), clear(l));
        }
    }

    private void askNumbers(int l) {
        int i = place(64);
        int j = place(64);
        int n = number();
        switch (next(5)) {
            case 0 -> Check.due("size(" + l + ")", x.size(l), isList(l) ? lists.get(l).size() : -1);
            case 1 -> Check.due("at(" + l + ", " + i + ")", x.at(l, i), at(l, i));
            case 2 -> Check.due("seek(" + l + ", " + n + ")", x.seek(l, n), seek(l, n));
            case 3 -> Check.due("has(" + l + ", " + n + ")", x.has(l, n), isList(l) && lists.get(l).contains(n));
            default -> Check.due("sum(" + l + ", " + i + ", " + j + ")", x.sum(l, i, j), sum(l, i, j));
        }
    }

    private void askBlocksAndMeeting(int l) {
        int b = place(8);
        int k = place(20);
        switch (next(7)) {
            case 0 -> Check.due("blocks(" + l + ")", x.blocks(l), isList(l) ? blockWidths(l).size() : -1);
            case 1 -> Check.due("base(" + l + ", " + b + ")", x.base(l, b), base(l, b));
            case 2 -> Check.due("blockSize(" + l + ", " + b + ")", x.blockSize(l, b), blockSize(l, b));
            case 3 -> Check.due("packed()", x.packed(), packed());
            case 4 -> Check.due("common()", x.common(), meeting().size());
            case 5 -> Check.due("commonAt(" + k + ")", x.commonAt(k),
                k >= 0 && k < meeting().size() ? meeting().get(k) : -4);
            default -> Check.due("tail(" + l + ")", x.tail(l), tail(l));
        }
    }

    private static boolean isList(int l) {
        return l == 0 || l == 1;
    }

    private int last(int l) {
        return lists.get(l).isEmpty() ? -1 : lists.get(l).last();
    }

    private int append(int l, int n) {
        if (!isList(l) || n < 0 || n > 1000000 || n <= last(l)) {
            return -1;
        }
        if (lists.get(l).size() == 64) {
            return -2;
        }
        lists.get(l).add(n);
        return lists.get(l).size();
    }

    private int run(int l, int n, int step) {
        if (!isList(l) || n < 0 || n > 64 || step < 1 || step > 1000) {
            return -1;
        }
        TreeSet<Integer> grown = new TreeSet<>(lists.get(l));
        for (int k = 0; k < n; k++) {
            grown.add(grown.isEmpty() ? step - 1 : grown.last() + step);
        }
        if (grown.size() > 64) {
            return -2;
        }
        if (n > 0 && grown.last() > 1000000) {
            return -1;
        }
        lists.get(l).addAll(grown);
        return grown.size();
    }

    private int insert(int l, int n) {
        if (!isList(l) || n < 0 || n > 1000000) {
            return -1;
        }
        if (lists.get(l).contains(n)) {
            return -4;
        }
        if (lists.get(l).size() == 64) {
            return -2;
        }
        lists.get(l).add(n);
        return lists.get(l).headSet(n).size();
    }

    private int remove(int l, int n) {
        if (!isList(l)) {
            return -1;
        }
        return lists.get(l).remove(n) ? lists.get(l).headSet(n).size() : -4;
    }

    private int clear(int l) {
        if (!isList(l)) {
            return -1;
        }
        int had = lists.get(l).size();
        lists.get(l).clear();
        return had;
    }

    private int at(int l, int i) {
        if (!isList(l)) {
            return -1;
        }
        return i >= 0 && i < lists.get(l).size() ? new ArrayList<>(lists.get(l)).get(i) : -4;
    }

    private int seek(int l, int n) {
        if (!isList(l)) {
            return -1;
        }
        return lists.get(l).ceiling(n) == null ? -4 : lists.get(l).headSet(n).size();
    }

    private int sum(int l, int i, int j) {
        if (!isList(l)) {
            return -1;
        }
        List<Integer> numbers = new ArrayList<>(lists.get(l));
        int from = Math.max(i, 0);
        int end = Math.min(j, numbers.size() - 1);
        return from > end ? 0 : numbers.subList(from, end + 1).stream().mapToInt(Integer::intValue).sum();
    }

    private List<List<Integer>> blockWidths(int l) {
        List<List<Integer>> blocks = new ArrayList<>();
        int place = 0;
        int before = -1;
        for (int n : lists.get(l)) {
            if (place % 8 == 0) {
                blocks.add(new ArrayList<>());
            }
            int code = n - before - 1;
            blocks.get(place / 8).add(code == 0 ? 0 : Integer.toBinaryString(code).length());
            before = n;
            place++;
        }
        return blocks;
    }

    private static int sizeAt(List<Integer> widths, int w) {
        int total = 9 + w * widths.size();
        for (int width : widths) {
            total += width > w ? 8 + width - w : 0;
        }
        return total;
    }

    private static int leastBase(List<Integer> widths) {
        int best = 20;
        for (int w = 20; w >= 0; w--) {
            best = sizeAt(widths, w) <= sizeAt(widths, best) ? w : best;
        }
        return best;
    }

    private int base(int l, int b) {
        if (!isList(l)) {
            return -1;
        }
        List<List<Integer>> blocks = blockWidths(l);
        return b >= 0 && b < blocks.size() ? leastBase(blocks.get(b)) : -4;
    }

    private int blockSize(int l, int b) {
        if (!isList(l)) {
            return -1;
        }
        List<List<Integer>> blocks = blockWidths(l);
        return b >= 0 && b < blocks.size() ? sizeAt(blocks.get(b), leastBase(blocks.get(b))) : -4;
    }

    private int packed() {
        int total = 0;
        for (int l = 0; l < 2; l++) {
            for (List<Integer> widths : blockWidths(l)) {
                total += sizeAt(widths, leastBase(widths));
            }
        }
        return total;
    }

    private List<Integer> meeting() {
        TreeSet<Integer> both = new TreeSet<>(lists.get(0));
        both.retainAll(lists.get(1));
        return new ArrayList<>(both);
    }

    private int tail(int l) {
        if (!isList(l)) {
            return -1;
        }
        for (int n : lists.get(l)) {
            if (lists.get(1 - l).containsAll(lists.get(l).tailSet(n))) {
                return n;
            }
        }
        return -4;
    }
}
