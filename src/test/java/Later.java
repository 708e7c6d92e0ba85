import java.util.ArrayList;
import java.util.List;
import java.util.function.Supplier;
import java.util.function.ToIntFunction;

/** What an object answers from some call on: every question, some changes, and every question again. */
final class Later {
    private Later() {
    }

    /**
     * The call answers the code, and all that the object answers after it is what an object like it
     * answers that never had the call.
     */
    static void refused(String call, Supplier<PforDelta> start, ToIntFunction<PforDelta> ask, int code) {
        PforDelta called = start.get();
        Check.due(call, ask.applyAsInt(called), code);
        Check.same("what is answered after " + call, answers(called), answers(start.get()));
    }

    static void holds(String when, PforDelta x, int l, Integer... want) {
        Check.same("list " + l + " " + when, numbers(x, l), List.of(want));
    }

    static List<Integer> numbers(PforDelta x, int l) {
        List<Integer> found = new ArrayList<>();
        int size = Math.min(x.size(l), 64);
        for (int i = 0; i < size; i++) {
            found.add(x.at(l, i));
        }
        return found;
    }

    /** At most 400 calls, so that the object stays below the 512 that the document speaks of. */
    static List<Integer> answers(PforDelta x) {
        List<Integer> found = new ArrayList<>();
        askAll(x, found);
        for (int l : Start.LISTS) {
            found.add(x.remove(l, x.at(l, 0)));
            found.add(x.insert(l, 500));
            found.add(x.insert(l, 0));
            found.add(x.append(l, 999990));
            found.add(x.run(l, 2, 3));
        }
        askAll(x, found);
        return found;
    }

    private static void askAll(PforDelta x, List<Integer> found) {
        for (int l : Start.LISTS) {
            askNumbers(x, l, found);
            askBlocks(x, l, found);
            found.add(x.tail(l));
        }
        found.add(x.packed());
        int common = x.common();
        found.add(common);
        found.add(x.commonAt(0));
        found.add(x.commonAt(common - 1));
    }

    private static void askNumbers(PforDelta x, int l, List<Integer> found) {
        found.add(x.size(l));
        found.addAll(numbers(x, l));
        for (int n : new int[] {0, 10, 500, 1000000}) {
            found.add(x.seek(l, n));
            found.add(x.has(l, n) ? 1 : 0);
        }
        found.add(x.sum(l, 0, 63));
    }

    private static void askBlocks(PforDelta x, int l, List<Integer> found) {
        int blocks = x.blocks(l);
        found.add(blocks);
        for (int b = 0; b < Math.min(blocks, 8); b++) {
            found.add(x.base(l, b));
            found.add(x.blockSize(l, b));
        }
    }
}
