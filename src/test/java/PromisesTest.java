import java.util.ArrayList;
import java.util.List;
import java.util.function.IntSupplier;

/** One method for each promise of the document: ordinary inputs, the edges it names, wrong inputs. */
public final class PromisesTest {
    private static final int BAD_ARG = -1;
    private static final int FULL = -2;
    private static final int NONE = -4;
    private static final int LOW = Integer.MIN_VALUE;
    private static final int HIGH = Integer.MAX_VALUE;
    private static final int[] NO_LISTS = {-1, 2, 3, LOW, HIGH};

    public static void main(String[] args) {
        promise1NewObject();
        promise2Append();
        promise2AppendOrder();
        promise3Run();
        promise3RunOrder();
        promise4Insert();
        promise4InsertOrder();
        promise5Remove();
        promise6Clear();
        promise7Size();
        promise8At();
        promise9Seek();
        promise10Has();
        promise11Sum();
        promise12Blocks();
        promise13Base();
        promise14BlockSize();
        promise15Packed();
        promise16Common();
        promise17CommonAt();
        promise18Tail();
        promise19OrderAndLimits();
        noListIsTestedFirst();
        questionsChangeNothing();
        Check.finish();
    }

    /** An object whose list 0 has these numbers. */
    private static PforDelta with(int... numbers) {
        PforDelta x = new PforDelta();
        fill(x, 0, numbers);
        return x;
    }

    private static void fill(PforDelta x, int l, int... numbers) {
        for (int number : numbers) {
            x.append(l, number);
        }
    }

    /** List 0 has 64 numbers, 9, 19, 29 and so on to 639. */
    private static PforDelta full() {
        PforDelta x = new PforDelta();
        Check.due("run(0, 64, 10)", x.run(0, 64, 10), 64);
        return x;
    }

    private static List<Integer> numbers(PforDelta x, int l) {
        List<Integer> found = new ArrayList<>();
        int size = x.size(l);
        for (int i = 0; i < size; i++) {
            found.add(x.at(l, i));
        }
        return found;
    }

    private static void holds(PforDelta x, int l, Integer... want) {
        Check.same("list " + l, numbers(x, l), List.of(want));
    }

    /** The call answers the code and leaves both lists as they were. */
    private static void refused(String call, PforDelta x, IntSupplier answer, int code) {
        List<Integer> before0 = numbers(x, 0);
        List<Integer> before1 = numbers(x, 1);
        Check.due(call, answer.getAsInt(), code);
        Check.same("list 0 after " + call, numbers(x, 0), before0);
        Check.same("list 1 after " + call, numbers(x, 1), before1);
    }

    private static void promise1NewObject() {
        PforDelta x = new PforDelta();
        for (int l = 0; l < 2; l++) {
            Check.due("new: size", x.size(l), 0);
            Check.due("new: at", x.at(l, 0), NONE);
            Check.due("new: seek", x.seek(l, 0), NONE);
            Check.due("new: has", x.has(l, 0), false);
            Check.due("new: sum", x.sum(l, 0, 63), 0);
            Check.due("new: blocks", x.blocks(l), 0);
            Check.due("new: tail", x.tail(l), NONE);
        }
        Check.due("new: packed", x.packed(), 0);
        Check.due("new: common", x.common(), 0);
        PforDelta other = new PforDelta();
        other.append(0, 5);
        Check.due("an object shares nothing with another", x.size(0), 0);
    }

    private static void promise2Append() {
        PforDelta x = new PforDelta();
        Check.due("append(0, 0)", x.append(0, 0), 1);
        Check.due("append(0, 1)", x.append(0, 1), 2);
        Check.due("append(0, 500)", x.append(0, 500), 3);
        Check.due("append(1, 7)", x.append(1, 7), 1);
        Check.due("append(0, 1000000)", x.append(0, 1000000), 4);
        holds(x, 0, 0, 1, 500, 1000000);
        holds(x, 1, 7);
        for (int wrong : new int[] {-1, 1000001, LOW, HIGH}) {
            PforDelta empty = new PforDelta();
            refused("append(0, " + wrong + ")", empty, () -> empty.append(0, wrong), BAD_ARG);
        }
        PforDelta y = with(10, 20);
        refused("append the last number", y, () -> y.append(0, 20), BAD_ARG);
        refused("append below the last number", y, () -> y.append(0, 15), BAD_ARG);
        refused("append(0, 1000001)", y, () -> y.append(0, 1000001), BAD_ARG);
        Check.due("append after a refusal", y.append(0, 21), 3);
    }

    private static void promise2AppendOrder() {
        PforDelta x = full();
        refused("append to a full list", x, () -> x.append(0, 640), FULL);
        refused("append the last number to a full list", x, () -> x.append(0, 639), BAD_ARG);
        PforDelta y = full();
        refused("append 1000001 to a full list", y, () -> y.append(0, 1000001), BAD_ARG);
        refused("append -1 to a full list", y, () -> y.append(0, -1), BAD_ARG);
        Check.due("the other list is not full", y.append(1, 3), 1);
        PforDelta z = new PforDelta();
        z.run(0, 63, 1);
        Check.due("append the 64th number", z.append(0, 1000000), 64);
        Check.due("append the 65th number", z.append(0, 1000000), BAD_ARG);
    }

    private static void promise3Run() {
        PforDelta x = new PforDelta();
        Check.due("run(0, 3, 5)", x.run(0, 3, 5), 3);
        holds(x, 0, 4, 9, 14);
        Check.due("run(0, 2, 1)", x.run(0, 2, 1), 5);
        holds(x, 0, 4, 9, 14, 15, 16);
        Check.due("run(1, 2, 1)", x.run(1, 2, 1), 2);
        holds(x, 1, 0, 1);
        Check.due("run(1, 1, 1000)", x.run(1, 1, 1000), 3);
        holds(x, 1, 0, 1, 1001);
        Check.due("run(0, 0, 1)", x.run(0, 0, 1), 5);
        Check.due("run(0, 0, 1) on an empty list", new PforDelta().run(0, 0, 1), 0);
        Check.due("run(0, 64, 1000)", new PforDelta().run(0, 64, 1000), 64);
        Check.due("run(0, 0, 1) on a full list", full().run(0, 0, 1), 64);
        Check.due("run(0, 0, 1000) at the greatest number", with(1000000).run(0, 0, 1000), 1);
        PforDelta y = with(997000);
        Check.due("run up to 1000000", y.run(0, 3, 1000), 4);
        Check.due("the last of them", y.at(0, 3), 1000000);
        for (int wrong : new int[] {-1, 65, LOW, HIGH}) {
            PforDelta z = with(3, 4);
            refused("run(0, " + wrong + ", 1)", z, () -> z.run(0, wrong, 1), BAD_ARG);
        }
        for (int wrong : new int[] {-1, 0, 1001, LOW, HIGH}) {
            PforDelta z = with(3, 4);
            refused("run(0, 1, " + wrong + ")", z, () -> z.run(0, 1, wrong), BAD_ARG);
            refused("run(0, 0, " + wrong + ")", z, () -> z.run(0, 0, wrong), BAD_ARG);
        }
    }

    private static void promise3RunOrder() {
        PforDelta x = with(999998);
        refused("a run of which only the last is too great", x, () -> x.run(0, 3, 1), BAD_ARG);
        refused("a run that is too long and too great", x, () -> x.run(0, 64, 1), FULL);
        refused("a run that is just not too long, but too great", x, () -> x.run(0, 63, 1), BAD_ARG);
        refused("n too great, and the list would be too", x, () -> x.run(0, 65, 1), BAD_ARG);
        refused("the step too great, and the list too", x, () -> x.run(0, 64, 1001), BAD_ARG);
        PforDelta y = full();
        refused("run on a full list", y, () -> y.run(0, 1, 1), FULL);
        refused("run with step 0 on a full list", y, () -> y.run(0, 1, 0), BAD_ARG);
        PforDelta z = new PforDelta();
        z.run(0, 60, 1);
        refused("a run of which only the last has no room", z, () -> z.run(0, 5, 1), FULL);
        Check.due("a run that fills the list", z.run(0, 4, 1), 64);
    }

    private static void promise4Insert() {
        PforDelta x = new PforDelta();
        Check.due("insert(0, 50)", x.insert(0, 50), 0);
        Check.due("insert(0, 1000000)", x.insert(0, 1000000), 1);
        Check.due("insert(0, 0)", x.insert(0, 0), 0);
        Check.due("insert(0, 51)", x.insert(0, 51), 2);
        Check.due("insert(0, 49)", x.insert(0, 49), 1);
        Check.due("insert(1, 49)", x.insert(1, 49), 0);
        holds(x, 0, 0, 49, 50, 51, 1000000);
        holds(x, 1, 49);
        refused("insert the first again", x, () -> x.insert(0, 0), NONE);
        refused("insert one in the middle again", x, () -> x.insert(0, 50), NONE);
        refused("insert the last again", x, () -> x.insert(0, 1000000), NONE);
        for (int wrong : new int[] {-1, 1000001, LOW, HIGH}) {
            refused("insert(0, " + wrong + ")", x, () -> x.insert(0, wrong), BAD_ARG);
        }
    }

    private static void promise4InsertOrder() {
        PforDelta x = full();
        refused("insert into a full list", x, () -> x.insert(0, 5), FULL);
        refused("insert what a full list has", x, () -> x.insert(0, 9), NONE);
        PforDelta y = full();
        refused("insert -1 into a full list", y, () -> y.insert(0, -1), BAD_ARG);
        refused("insert 1000001 into a full list", y, () -> y.insert(0, 1000001), BAD_ARG);
        PforDelta z = new PforDelta();
        z.run(0, 63, 10);
        z.run(1, 3, 10);
        Check.due("insert the 64th number", z.insert(0, 0), 0);
        Check.due("its last has moved up", z.at(0, 63), 629);
        holds(z, 1, 9, 19, 29);
    }

    private static void promise5Remove() {
        PforDelta x = with(3, 7, 9, 1000000);
        fill(x, 1, 7, 8);
        refused("remove what lies between", x, () -> x.remove(0, 8), NONE);
        refused("remove below all", x, () -> x.remove(0, 2), NONE);
        for (int wrong : new int[] {-1, 1000001, LOW, HIGH}) {
            refused("remove(0, " + wrong + ")", x, () -> x.remove(0, wrong), NONE);
        }
        Check.due("remove(0, 7)", x.remove(0, 7), 1);
        holds(x, 0, 3, 9, 1000000);
        holds(x, 1, 7, 8);
        Check.due("remove(0, 7) again", x.remove(0, 7), NONE);
        Check.due("remove the last", x.remove(0, 1000000), 2);
        Check.due("remove the first", x.remove(0, 3), 0);
        Check.due("remove the only one", x.remove(0, 9), 0);
        Check.due("remove it again", x.remove(0, 9), NONE);
        Check.due("nothing is left", x.size(0), 0);
        Check.due("a removed number can be appended", x.append(0, 9), 1);
        PforDelta y = full();
        Check.due("remove from a full list", y.remove(0, 9), 0);
        Check.due("its last has moved down", y.at(0, 62), 639);
        Check.due("there is room again", y.append(0, 640), 64);
        y.run(1, 64, 10);
        Check.due("remove the first of a full list 1", y.remove(1, 9), 0);
        Check.due("its last has moved down", y.at(1, 62), 639);
        Check.due("no more are left", y.at(1, 63), NONE);
    }

    private static void promise6Clear() {
        PforDelta x = with(3, 7, 9);
        fill(x, 1, 7, 8);
        Check.due("clear(0)", x.clear(0), 3);
        Check.due("size after clear", x.size(0), 0);
        Check.due("at after clear", x.at(0, 0), NONE);
        Check.due("has after clear", x.has(0, 3), false);
        Check.due("common after clear", x.common(), 0);
        holds(x, 1, 7, 8);
        Check.due("clear(0) again", x.clear(0), 0);
        Check.due("run after clear", x.run(0, 2, 2), 2);
        holds(x, 0, 1, 3);
        Check.due("clear(1)", x.clear(1), 2);
        Check.due("clear a full list", full().clear(0), 64);
    }

    private static void promise7Size() {
        PforDelta x = with(3, 7, 9);
        Check.due("size(0)", x.size(0), 3);
        Check.due("size(1)", x.size(1), 0);
        x.append(1, 4);
        Check.due("size(1) after append", x.size(1), 1);
        Check.due("size of a full list", full().size(0), 64);
    }

    private static void promise8At() {
        PforDelta x = with(3, 7, 1000000);
        x.append(1, 5);
        Check.due("at(0, 0)", x.at(0, 0), 3);
        Check.due("at(0, 1)", x.at(0, 1), 7);
        Check.due("at(0, 2)", x.at(0, 2), 1000000);
        Check.due("at(1, 0)", x.at(1, 0), 5);
        for (int wrong : new int[] {-1, 3, 63, 64, LOW, HIGH}) {
            Check.due("at(0, " + wrong + ")", x.at(0, wrong), NONE);
        }
        PforDelta y = full();
        y.append(1, 5);
        Check.due("at(0, 63)", y.at(0, 63), 639);
        Check.due("at(0, 64)", y.at(0, 64), NONE);
        Check.due("at(1, -1)", y.at(1, -1), NONE);
    }

    private static void promise9Seek() {
        PforDelta x = with(3, 7, 1000000);
        x.append(1, 5);
        Check.due("seek(0, 3)", x.seek(0, 3), 0);
        Check.due("seek(0, 4)", x.seek(0, 4), 1);
        Check.due("seek(0, 7)", x.seek(0, 7), 1);
        Check.due("seek(0, 8)", x.seek(0, 8), 2);
        Check.due("seek(0, 1000000)", x.seek(0, 1000000), 2);
        Check.due("seek(1, 5)", x.seek(1, 5), 0);
        Check.due("seek(1, 6)", x.seek(1, 6), NONE);
        Check.due("seek(0, 0)", x.seek(0, 0), 0);
        Check.due("seek(0, -1)", x.seek(0, -1), 0);
        Check.due("seek(0, LOW)", x.seek(0, LOW), 0);
        Check.due("seek(0, 1000001)", x.seek(0, 1000001), NONE);
        Check.due("seek(0, HIGH)", x.seek(0, HIGH), NONE);
        Check.due("seek in an empty list", new PforDelta().seek(0, LOW), NONE);
        PforDelta y = full();
        Check.due("seek the last of a full list", y.seek(0, 639), 63);
        y.append(1, 1000);
        Check.due("seek beyond a full list", y.seek(0, 640), NONE);
    }

    private static void promise10Has() {
        PforDelta x = with(0, 7, 1000000);
        x.append(1, 5);
        for (int number : new int[] {0, 7, 1000000}) {
            Check.due("has(0, " + number + ")", x.has(0, number), true);
            Check.due("has(1, " + number + ")", x.has(1, number), false);
        }
        for (int number : new int[] {1, 5, 6, 8, 999999, -1, 1000001, LOW, HIGH}) {
            Check.due("has(0, " + number + ")", x.has(0, number), false);
        }
        for (int l : NO_LISTS) {
            Check.due("has(" + l + ", 7)", x.has(l, 7), false);
        }
        Check.due("has in an empty list", new PforDelta().has(0, 0), false);
    }

    private static void promise11Sum() {
        PforDelta x = with(1, 10, 100, 1000);
        x.append(1, 5);
        Check.due("sum(0, 0, 3)", x.sum(0, 0, 3), 1111);
        Check.due("sum(0, 1, 2)", x.sum(0, 1, 2), 110);
        Check.due("sum(0, 2, 2)", x.sum(0, 2, 2), 100);
        Check.due("sum(0, 2, 1)", x.sum(0, 2, 1), 0);
        Check.due("sum(0, 3, 4)", x.sum(0, 3, 4), 1000);
        Check.due("sum(0, 4, 9)", x.sum(0, 4, 9), 0);
        Check.due("sum(0, -5, 0)", x.sum(0, -5, 0), 1);
        Check.due("sum(0, -5, -1)", x.sum(0, -5, -1), 0);
        Check.due("sum(0, LOW, HIGH)", x.sum(0, LOW, HIGH), 1111);
        Check.due("sum(0, HIGH, LOW)", x.sum(0, HIGH, LOW), 0);
        Check.due("sum(0, HIGH, HIGH)", x.sum(0, HIGH, HIGH), 0);
        Check.due("sum(0, LOW, LOW)", x.sum(0, LOW, LOW), 0);
        Check.due("sum(1, 0, 3)", x.sum(1, 0, 3), 5);
        Check.due("sum of an empty list", new PforDelta().sum(0, 0, 63), 0);
        x.remove(0, 1000);
        Check.due("sum after remove", x.sum(0, 0, 63), 111);
        x.clear(0);
        Check.due("sum after clear", x.sum(0, 0, 63), 0);
        PforDelta y = with(999936);
        y.run(0, 63, 1);
        y.run(1, 64, 1);
        Check.due("sum of list 1", y.sum(1, 0, HIGH), 63 * 32);
        Check.due("sum of great numbers", y.sum(0, 0, 63), 64 * 999936 + 63 * 32);
    }

    private static void promise12Blocks() {
        int[] due = {0, 1, 1, 1, 1, 1, 1, 1, 1, 2};
        PforDelta x = new PforDelta();
        for (int size = 0; size < due.length; size++) {
            Check.due("blocks(0) of " + size + " numbers", x.blocks(0), due[size]);
            x.append(0, size);
        }
        Check.due("blocks(1)", x.blocks(1), 0);
        PforDelta y = full();
        Check.due("blocks of a full list", y.blocks(0), 8);
        y.run(1, 57, 1);
        Check.due("blocks of 57 numbers", y.blocks(1), 8);
        y.remove(1, 0);
        Check.due("blocks of 56 numbers", y.blocks(1), 7);
    }

    private static void promise13Base() {
        // Codes 0: every base above 0 costs more.
        Check.due("base of 0 1 2", with(0, 1, 2).base(0, 0), 0);
        // One code 1: at base 1 it costs 1, at base 0 it costs 9.
        Check.due("base of 1", with(1).base(0, 0), 1);
        Check.due("base of 1000000", with(1000000).base(0, 0), 20);
        Check.due("base of 524287", with(524287).base(0, 0), 19);
        Check.due("base of 524288", with(524288).base(0, 0), 20);
        // Widths 1 and seven times 0: 9 at base 0, 8 at base 1.
        Check.due("base of 1 to 8", with(1, 2, 3, 4, 5, 6, 7, 8).base(0, 0), 1);
        // Widths 8 and 0: 16 at base 0 and at base 8, so the least of the two counts.
        Check.due("base of 255 256", with(255, 256).base(0, 0), 0);
        // Widths 7 and 0: 15 at base 0, 14 at base 7.
        Check.due("base of 127 128", with(127, 128).base(0, 0), 7);
        // Widths 9 and 0: 17 at base 0, 18 at base 9.
        Check.due("base of 511 512", with(511, 512).base(0, 0), 0);
        PforDelta x = with(3, 7, 11, 15, 19, 23, 27, 31, 32);
        // The first code is 3 too, as the first gap is the first number plus 1.
        Check.due("base of the first block", x.base(0, 0), 2);
        Check.due("base of the second block", x.base(0, 1), 0);
        for (int wrong : new int[] {-1, 2, 7, 8, LOW, HIGH, 1 << 29, -(1 << 29)}) {
            Check.due("base(0, " + wrong + ")", x.base(0, wrong), NONE);
        }
        Check.due("base(1, 0) of an empty list", x.base(1, 0), NONE);
        x.append(1, 4);
        Check.due("base(1, 0)", x.base(1, 0), 3);
        Check.due("base(0, 8) of a full list", full().base(0, 8), NONE);
        Check.due("base(0, 7) of a full list", full().base(0, 7), 4);
    }

    private static void promise14BlockSize() {
        Check.due("size of 0 1 2", with(0, 1, 2).blockSize(0, 0), 9);
        Check.due("size of 1", with(1).blockSize(0, 0), 10);
        Check.due("size of 1000000", with(1000000).blockSize(0, 0), 29);
        Check.due("size of 255 256", with(255, 256).blockSize(0, 0), 25);
        Check.due("size of 127 128", with(127, 128).blockSize(0, 0), 23);
        Check.due("size of 511 512", with(511, 512).blockSize(0, 0), 26);
        PforDelta x = with(3, 7, 11, 15, 19, 23, 27, 31, 32);
        Check.due("size of the first block", x.blockSize(0, 0), 25);
        Check.due("size of the second block", x.blockSize(0, 1), 9);
        for (int wrong : new int[] {-1, 2, 7, 8, LOW, HIGH, 1 << 29, -(1 << 29)}) {
            Check.due("blockSize(0, " + wrong + ")", x.blockSize(0, wrong), NONE);
        }
        Check.due("blockSize(1, 0) of an empty list", x.blockSize(1, 0), NONE);
        x.append(1, 4);
        Check.due("blockSize(1, 0)", x.blockSize(1, 0), 12);
        // The first code of a block is counted from the last number of the block before.
        PforDelta y = with(0, 1, 2, 3, 4, 5, 6, 7, 10);
        Check.due("a second block of code 2", y.blockSize(0, 1), 11);
        Check.due("remove(0, 0)", y.remove(0, 0), 0);
        Check.due("codes 1 0 0 0 0 0 0 2", y.blockSize(0, 0), 25);
        Check.due("their base", y.base(0, 0), 2);
        Check.due("blockSize(0, 8) of a full list", full().blockSize(0, 8), NONE);
        Check.due("blockSize(0, 7) of a full list", full().blockSize(0, 7), 41);
    }

    private static void promise15Packed() {
        PforDelta x = with(3, 7, 11, 15, 19, 23, 27, 31, 32);
        Check.due("packed of list 0 alone", x.packed(), 34);
        x.append(1, 4);
        Check.due("packed of both lists", x.packed(), 46);
        x.clear(0);
        Check.due("packed of list 1 alone", x.packed(), 12);
        x.clear(1);
        Check.due("packed of none", x.packed(), 0);
        PforDelta y = full();
        y.run(1, 64, 1);
        Check.due("packed of full lists", y.packed(), 8 * 41 + 8 * 9);
    }

    private static void promise16Common() {
        PforDelta x = with(0, 3, 5, 9, 1000000);
        Check.due("common with an empty list", x.common(), 0);
        fill(x, 1, 0, 4, 5, 8, 1000000);
        Check.due("common", x.common(), 3);
        x.remove(1, 5);
        Check.due("common after remove", x.common(), 2);
        x.insert(1, 3);
        Check.due("common after insert", x.common(), 3);
        x.clear(0);
        Check.due("common after clear", x.common(), 0);
        PforDelta y = full();
        y.run(1, 64, 10);
        Check.due("common of equal lists", y.common(), 64);
    }

    private static void promise17CommonAt() {
        PforDelta x = with(0, 3, 5, 9, 1000000);
        Check.due("commonAt(0) with an empty list", x.commonAt(0), NONE);
        fill(x, 1, 0, 4, 5, 8, 1000000);
        Check.due("commonAt(0)", x.commonAt(0), 0);
        Check.due("commonAt(1)", x.commonAt(1), 5);
        Check.due("commonAt(2)", x.commonAt(2), 1000000);
        for (int wrong : new int[] {-1, 3, 4, 64, LOW, HIGH}) {
            Check.due("commonAt(" + wrong + ")", x.commonAt(wrong), NONE);
        }
        PforDelta y = full();
        y.run(1, 64, 10);
        Check.due("commonAt(63) of equal lists", y.commonAt(63), 639);
        Check.due("commonAt(64) of equal lists", y.commonAt(64), NONE);
    }

    private static void promise18Tail() {
        PforDelta x = with(0, 3, 5, 9);
        Check.due("tail(0), list 1 empty", x.tail(0), NONE);
        Check.due("tail of an empty list", x.tail(1), NONE);
        fill(x, 1, 0, 5, 9);
        Check.due("tail(0)", x.tail(0), 5);
        Check.due("tail(1), wholly in list 0", x.tail(1), 0);
        x.append(1, 10);
        Check.due("tail(0), list 1 goes on", x.tail(0), 5);
        Check.due("tail(1), its last not in list 0", x.tail(1), NONE);
        x.append(0, 10);
        x.remove(0, 9);
        Check.due("tail(1), only its last in list 0", x.tail(1), 10);
        Check.due("tail(0), one between only in list 1", x.tail(0), 5);
        PforDelta y = full();
        y.run(1, 64, 10);
        Check.due("tail of equal lists", y.tail(0), 9);
        Check.due("tail of the other", y.tail(1), 9);
    }

    private static void promise19OrderAndLimits() {
        // Widths 20 and seven times 0: 9 + (0 + 8 + 20) at base 0, more at every other.
        PforDelta x = with(0, 1, 2, 3, 4, 5, 6, 1000000);
        Check.due("one wide code at base 0", x.blockSize(0, 0), 37);
        Check.due("base", x.base(0, 0), 0);
        // Seven codes of width 3 and one of width 20: 9 + 7 * 3 + (3 + 8 + 17) at base 3.
        PforDelta y = with(7, 15, 23, 31, 39, 47, 55, 1000000);
        Check.due("one wide code at base 3", y.blockSize(0, 0), 58);
        Check.due("base", y.base(0, 0), 3);
        // Four codes of width 3 and four of width 10: 9 + 8 * 10 = 89 at base 10, 9 + 12 + 4 * 18 = 93 at base 3.
        PforDelta z = with(7, 15, 23, 31, 1031, 2031, 3031, 4031);
        Check.due("four wide codes", z.blockSize(0, 0), 89);
        Check.due("base", z.base(0, 0), 10);
        // Widths 4 and 12: 9 + 4 + (4 + 8 + 8) = 33 at base 4, 33 at base 12, and 9 + 12 + 20 at base 0.
        PforDelta v = with(15, 4015);
        Check.due("two bases of the same size", v.blockSize(0, 0), 33);
        Check.due("the least of them", v.base(0, 0), 4);
    }

    private static void noListIsTestedFirst() {
        for (int l : NO_LISTS) {
            PforDelta x = with(3, 7);
            fill(x, 1, 4, 8);
            String list = " of list " + l;
            refused("append" + list, x, () -> x.append(l, 9), BAD_ARG);
            refused("run" + list, x, () -> x.run(l, 64, 1), BAD_ARG);
            refused("insert" + list, x, () -> x.insert(l, 3), BAD_ARG);
            refused("remove" + list, x, () -> x.remove(l, 3), BAD_ARG);
            refused("remove of what is nowhere" + list, x, () -> x.remove(l, 5), BAD_ARG);
            refused("clear" + list, x, () -> x.clear(l), BAD_ARG);
            Check.due("size" + list, x.size(l), BAD_ARG);
            Check.due("at" + list, x.at(l, 0), BAD_ARG);
            Check.due("at -1" + list, x.at(l, -1), BAD_ARG);
            Check.due("seek" + list, x.seek(l, 0), BAD_ARG);
            Check.due("seek HIGH" + list, x.seek(l, HIGH), BAD_ARG);
            Check.due("sum" + list, x.sum(l, 0, 1), BAD_ARG);
            Check.due("sum of nothing" + list, x.sum(l, 1, 0), BAD_ARG);
            Check.due("blocks" + list, x.blocks(l), BAD_ARG);
            Check.due("base" + list, x.base(l, 0), BAD_ARG);
            Check.due("base -1" + list, x.base(l, -1), BAD_ARG);
            Check.due("blockSize" + list, x.blockSize(l, 0), BAD_ARG);
            Check.due("blockSize -1" + list, x.blockSize(l, -1), BAD_ARG);
            Check.due("tail" + list, x.tail(l), BAD_ARG);
        }
    }

    private static void questionsChangeNothing() {
        PforDelta x = with(3, 7, 9, 40, 41, 42, 43, 44, 45);
        fill(x, 1, 4, 7, 41);
        for (int l = 0; l < 2; l++) {
            x.size(l);
            x.at(l, 1);
            x.seek(l, 8);
            x.has(l, 7);
            x.sum(l, 0, 9);
            x.blocks(l);
            x.base(l, 0);
            x.blockSize(l, 0);
            x.tail(l);
        }
        x.packed();
        x.common();
        x.commonAt(1);
        holds(x, 0, 3, 7, 9, 40, 41, 42, 43, 44, 45);
        holds(x, 1, 4, 7, 41);
    }
}
