import java.util.ArrayList;
import java.util.List;
import java.util.TreeSet;

/** A second program, written from the document over the Java library's sets, with the same calls. */
final class Model {
    private final List<TreeSet<Integer>> lists = List.of(new TreeSet<>(), new TreeSet<>());

    List<Integer> numbers(int l) {
        return new ArrayList<>(lists.get(l));
    }

    private static boolean isList(int l) {
        return l == 0 || l == 1;
    }

    private int last(int l) {
        return lists.get(l).isEmpty() ? -1 : lists.get(l).last();
    }

    int append(int l, int n) {
        if (!isList(l) || n < 0 || n > 1000000 || n <= last(l)) {
            return -1;
        }
        if (lists.get(l).size() == 64) {
            return -2;
        }
        lists.get(l).add(n);
        return lists.get(l).size();
    }

    int run(int l, int n, int step) {
        if (!isList(l) || n < 0 || n > 64 || step < 1 || step > 1000) {
            return -1;
        }
        TreeSet<Integer> grown = new TreeSet<>(lists.get(l));
        for (int k = 0; k < n; k++) {
            grown.add(grown.isEmpty() ? step - 1 : grown.last() + step);
        }
        if (grown.size() > 64) {
            return -2;
        }
        if (n > 0 && grown.last() > 1000000) {
            return -1;
        }
        lists.get(l).addAll(grown);
        return grown.size();
    }

    int insert(int l, int n) {
        if (!isList(l) || n < 0 || n > 1000000) {
            return -1;
        }
        if (lists.get(l).contains(n)) {
            return -4;
        }
        if (lists.get(l).size() == 64) {
            return -2;
        }
        lists.get(l).add(n);
        return lists.get(l).headSet(n).size();
    }

    int remove(int l, int n) {
        if (!isList(l)) {
            return -1;
        }
        return lists.get(l).remove(n) ? lists.get(l).headSet(n).size() : -4;
    }

    int clear(int l) {
        if (!isList(l)) {
            return -1;
        }
        int had = lists.get(l).size();
        lists.get(l).clear();
        return had;
    }

    int size(int l) {
        return isList(l) ? lists.get(l).size() : -1;
    }

    int at(int l, int i) {
        if (!isList(l)) {
            return -1;
        }
        return i >= 0 && i < lists.get(l).size() ? new ArrayList<>(lists.get(l)).get(i) : -4;
    }

    int seek(int l, int n) {
        if (!isList(l)) {
            return -1;
        }
        return lists.get(l).ceiling(n) == null ? -4 : lists.get(l).headSet(n).size();
    }

    boolean has(int l, int n) {
        return isList(l) && lists.get(l).contains(n);
    }

    int sum(int l, int i, int j) {
        if (!isList(l)) {
            return -1;
        }
        List<Integer> numbers = new ArrayList<>(lists.get(l));
        int from = Math.max(i, 0);
        int end = Math.min(j, numbers.size() - 1);
        return from > end ? 0 : numbers.subList(from, end + 1).stream().mapToInt(Integer::intValue).sum();
    }

    private List<List<Integer>> blockWidths(int l) {
        List<List<Integer>> blocks = new ArrayList<>();
        int place = 0;
        int before = -1;
        for (int n : lists.get(l)) {
            if (place % 8 == 0) {
                blocks.add(new ArrayList<>());
            }
            int code = n - before - 1;
            blocks.get(place / 8).add(code == 0 ? 0 : Integer.toBinaryString(code).length());
            before = n;
            place++;
        }
        return blocks;
    }

    private static int sizeAt(List<Integer> widths, int w) {
        int total = 9 + w * widths.size();
        for (int width : widths) {
            total += width > w ? 8 + width - w : 0;
        }
        return total;
    }

    private static int leastBase(List<Integer> widths) {
        int best = 20;
        for (int w = 20; w >= 0; w--) {
            best = sizeAt(widths, w) <= sizeAt(widths, best) ? w : best;
        }
        return best;
    }

    int blocks(int l) {
        return isList(l) ? blockWidths(l).size() : -1;
    }

    int base(int l, int b) {
        if (!isList(l)) {
            return -1;
        }
        List<List<Integer>> blocks = blockWidths(l);
        return b >= 0 && b < blocks.size() ? leastBase(blocks.get(b)) : -4;
    }

    int blockSize(int l, int b) {
        if (!isList(l)) {
            return -1;
        }
        List<List<Integer>> blocks = blockWidths(l);
        return b >= 0 && b < blocks.size() ? sizeAt(blocks.get(b), leastBase(blocks.get(b))) : -4;
    }

    int packed() {
        int total = 0;
        for (int l = 0; l < 2; l++) {
            for (List<Integer> widths : blockWidths(l)) {
                total += sizeAt(widths, leastBase(widths));
            }
        }
        return total;
    }

    private List<Integer> meeting() {
        TreeSet<Integer> both = new TreeSet<>(lists.get(0));
        both.retainAll(lists.get(1));
        return new ArrayList<>(both);
    }

    int common() {
        return meeting().size();
    }

    int commonAt(int k) {
        return k >= 0 && k < meeting().size() ? meeting().get(k) : -4;
    }

    int tail(int l) {
        if (!isList(l)) {
            return -1;
        }
        for (int n : lists.get(l)) {
            if (lists.get(1 - l).containsAll(lists.get(l).tailSet(n))) {
                return n;
            }
        }
        return -4;
    }
}
