import java.util.List;

/**
 * Every call with every pairing of edge arguments, the least and the greatest int among them, on lists
 * that are empty, short, full and up to the top. No call throws; each answers what the model answers; a
 * refused call, and a call that only asks, leaves every later answer as it was.
 */
public final class ExtremesTest {
    private static final int[] LISTS = {0, 1, -1, 2, 1 << 26, Start.LOW, Start.HIGH};
    private static final int[] EDGES = {Start.LOW, Start.LOW + 1, -(1 << 29), -1000001, -65, -1, 0, 1, 2, 7, 8, 9,
        63, 64, 65, 999, 1000, 1001, 65536, 999999, 1000000, 1000001, 1 << 29, Start.HIGH - 1, Start.HIGH};

    /** A row of two is an append of a number to a list, a row of three is a run. */
    private static final List<int[][]> STATES = List.of(
        new int[][] {},
        new int[][] {{0, 0}, {1, 1000000}},
        new int[][] {{0, 8, 1}, {1, 9, 8}},
        new int[][] {{0, 7}, {0, 63}, {0, 64}, {0, 999999}, {1, 63, 1}},
        new int[][] {{0, 63, 1}, {0, 1000000}, {1, 64, 1000}},
        new int[][] {{0, 64, 9}, {1, 937000}, {1, 63, 1000}});

    private interface Asked {
        int answer(PforDelta x, int l, int i, int j);
    }

    private interface Expected {
        int answer(Model model, int l, int i, int j);
    }

    public static void main(String[] args) {
        listsAlone("clear", (x, l, i, j) -> x.clear(l), (m, l, i, j) -> m.clear(l));
        listsAlone("size", (x, l, i, j) -> x.size(l), (m, l, i, j) -> m.size(l));
        listsAlone("blocks", (x, l, i, j) -> x.blocks(l), (m, l, i, j) -> m.blocks(l));
        listsAlone("tail", (x, l, i, j) -> x.tail(l), (m, l, i, j) -> m.tail(l));
        listsAlone("packed", (x, l, i, j) -> x.packed(), (m, l, i, j) -> m.packed());
        listsAlone("common", (x, l, i, j) -> x.common(), (m, l, i, j) -> m.common());
        withOne("append", (x, l, i, j) -> x.append(l, i), (m, l, i, j) -> m.append(l, i));
        withOne("insert", (x, l, i, j) -> x.insert(l, i), (m, l, i, j) -> m.insert(l, i));
        withOne("remove", (x, l, i, j) -> x.remove(l, i), (m, l, i, j) -> m.remove(l, i));
        withOne("at", (x, l, i, j) -> x.at(l, i), (m, l, i, j) -> m.at(l, i));
        withOne("seek", (x, l, i, j) -> x.seek(l, i), (m, l, i, j) -> m.seek(l, i));
        withOne("has", (x, l, i, j) -> x.has(l, i) ? 1 : 0, (m, l, i, j) -> m.has(l, i) ? 1 : 0);
        withOne("base", (x, l, i, j) -> x.base(l, i), (m, l, i, j) -> m.base(l, i));
        withOne("blockSize", (x, l, i, j) -> x.blockSize(l, i), (m, l, i, j) -> m.blockSize(l, i));
        withOne("commonAt", (x, l, i, j) -> x.commonAt(i), (m, l, i, j) -> m.commonAt(i));
        withTwo("run", (x, l, i, j) -> x.run(l, i, j), (m, l, i, j) -> m.run(l, i, j));
        withTwo("sum", (x, l, i, j) -> x.sum(l, i, j), (m, l, i, j) -> m.sum(l, i, j));
        Check.finish();
    }

    private static void listsAlone(String name, Asked asked, Expected expected) {
        onEdges(name, asked, expected, new int[] {0}, new int[] {0});
    }

    private static void withOne(String name, Asked asked, Expected expected) {
        onEdges(name, asked, expected, EDGES, new int[] {0});
    }

    private static void withTwo(String name, Asked asked, Expected expected) {
        onEdges(name, asked, expected, EDGES, EDGES);
    }

    private static void onEdges(String name, Asked asked, Expected expected, int[] firsts, int[] seconds) {
        Check.boundary("no call throws, a refused one changes nothing: " + name, () -> {
            for (int[][] state : STATES) {
                List<Integer> untouched = Later.answers(program(state));
                for (int l : LISTS) {
                    for (int i : firsts) {
                        for (int j : seconds) {
                            String call = name + " with " + l + ", " + i + ", " + j;
                            callOnce(call, state, asked, expected, untouched, new int[] {l, i, j});
                        }
                    }
                }
            }
        });
    }

    private static void callOnce(String call, int[][] state, Asked asked, Expected expected, List<Integer> untouched,
            int[] with) {
        PforDelta x = program(state);
        Model model = model(state);
        List<List<Integer>> before = List.of(model.numbers(0), model.numbers(1));
        int want = expected.answer(model, with[0], with[1], with[2]);
        Check.due(call, asked.answer(x, with[0], with[1], with[2]), want);
        List<List<Integer>> after = List.of(model.numbers(0), model.numbers(1));
        if (after.equals(before)) {
            Check.same("what is answered after " + call, Later.answers(x), untouched);
        } else {
            Check.same("the lists after " + call, List.of(Later.numbers(x, 0), Later.numbers(x, 1)), after);
        }
    }

    private static PforDelta program(int[][] state) {
        PforDelta x = new PforDelta();
        for (int[] row : state) {
            if (row.length == 2) {
                x.append(row[0], row[1]);
            } else {
                x.run(row[0], row[1], row[2]);
            }
        }
        return x;
    }

    private static Model model(int[][] state) {
        Model model = new Model();
        for (int[] row : state) {
            if (row.length == 2) {
                model.append(row[0], row[1]);
            } else {
                model.run(row[0], row[1], row[2]);
            }
        }
        return model;
    }
}
