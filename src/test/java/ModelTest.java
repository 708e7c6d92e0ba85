import java.util.List;

/** Long mixed runs of calls, each answer compared with the model's. The calls are the same in every run. */
public final class ModelTest {
    private static final int OBJECTS = 1200;
    private static final int CALLS = 512;
    private static final int[] EDGES = {Integer.MIN_VALUE, -1000001, -1, 0, 1, 999999, 1000000, 1000001,
        Integer.MAX_VALUE - 1, Integer.MAX_VALUE};

    private static long seed = 20261115L;

    private final Model model = new Model();
    private final PforDelta x = new PforDelta();
    private final int top;
    private final int edgeShare;
    private final int growShare;

    private ModelTest(int top, int edgeShare, int growShare) {
        this.top = top;
        this.edgeShare = edgeShare;
        this.growShare = growShare;
    }

    public static void main(String[] args) {
        int[] tops = {12, 70, 90, 400, 5000, 1000000};
        for (int object = 0; object < OBJECTS; object++) {
            int top = tops[object % tops.length];
            int growShare = 30 + 10 * (object / tops.length % 4);
            ModelTest test = new ModelTest(top, 4, growShare);
            for (int call = 0; call < CALLS; call++) {
                test.callOnce();
            }
        }
        Check.finish();
    }

    /** A fixed sequence: a linear congruence, of which the high bits are used. */
    private static int next(int bound) {
        seed = seed * 6364136223846793005L + 1442695040888963407L;
        return (int) ((seed >>> 33) % bound);
    }

    private void callOnce() {
        int l = next(40) == 0 ? edge() : next(2);
        if (next(100) < growShare) {
            change(l);
        } else if (next(2) == 0) {
            askNumbers(l);
        } else {
            askBlocksAndMeeting(l);
        }
    }

    private static int edge() {
        return next(3) == 0 ? 2 : EDGES[next(EDGES.length)];
    }

    private int number() {
        int kind = next(100);
        if (kind < edgeShare) {
            return EDGES[next(EDGES.length)];
        }
        if (kind < 30 && model.size(0) > 0) {
            return near(model.numbers(0));
        }
        if (kind < 56 && model.size(1) > 0) {
            return near(model.numbers(1));
        }
        return kind < 60 ? 1000000 - next(top + 1) : next(top + 1);
    }

    private static int near(List<Integer> list) {
        return list.get(next(list.size())) + (next(3) == 0 ? next(3) - 1 : 0);
    }

    private int place(int bound) {
        return next(20) == 0 ? EDGES[next(EDGES.length)] : next(bound + 4) - 2;
    }

    private void change(int l) {
        int kind = next(100);
        if (kind < 25) {
            int n = number();
            Check.due("append(" + l + ", " + n + ")", x.append(l, n), model.append(l, n));
        } else if (kind < 35) {
            int n = next(10) == 0 ? next(70) - 3 : next(5) == 0 ? EDGES[next(EDGES.length)] : next(9);
            int step = next(10) == 0 ? 998 + next(5) : next(12) == 0 ? EDGES[next(EDGES.length)] : 1 + next(4);
            Check.due("run(" + l + ", " + n + ", " + step + ")", x.run(l, n, step), model.run(l, n, step));
        } else if (kind < 75) {
            int n = number();
            Check.due("insert(" + l + ", " + n + ")", x.insert(l, n), model.insert(l, n));
        } else if (kind < 98) {
            int n = number();
            Check.due("remove(" + l + ", " + n + ")", x.remove(l, n), model.remove(l, n));
        } else {
            Check.due("clear(" + l + ")", x.clear(l), model.clear(l));
        }
    }

    private void askNumbers(int l) {
        int i = place(64);
        int j = place(64);
        int n = number();
        switch (next(5)) {
            case 0 -> Check.due("size(" + l + ")", x.size(l), model.size(l));
            case 1 -> Check.due("at(" + l + ", " + i + ")", x.at(l, i), model.at(l, i));
            case 2 -> Check.due("seek(" + l + ", " + n + ")", x.seek(l, n), model.seek(l, n));
            case 3 -> Check.due("has(" + l + ", " + n + ")", x.has(l, n), model.has(l, n));
            default -> Check.due("sum(" + l + ", " + i + ", " + j + ")", x.sum(l, i, j), model.sum(l, i, j));
        }
    }

    private void askBlocksAndMeeting(int l) {
        int b = place(8);
        int k = place(20);
        switch (next(7)) {
            case 0 -> Check.due("blocks(" + l + ")", x.blocks(l), model.blocks(l));
            case 1 -> Check.due("base(" + l + ", " + b + ")", x.base(l, b), model.base(l, b));
            case 2 -> Check.due("blockSize(" + l + ", " + b + ")", x.blockSize(l, b), model.blockSize(l, b));
            case 3 -> Check.due("packed()", x.packed(), model.packed());
            case 4 -> Check.due("common()", x.common(), model.common());
            case 5 -> Check.due("commonAt(" + k + ")", x.commonAt(k), model.commonAt(k));
            default -> Check.due("tail(" + l + ")", x.tail(l), model.tail(l));
        }
    }
}
