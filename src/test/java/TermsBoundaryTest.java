import java.util.List;
import java.util.function.Supplier;
import java.util.function.ToIntFunction;

/** The boundary cases that the document names before its promises, and promise 1. */
public final class TermsBoundaryTest {
    private static final int BAD_ARG = -1;
    private static final int FULL = -2;
    private static final int NONE = -4;
    private static final int LOW = Start.LOW;
    private static final int HIGH = Start.HIGH;

    /** A list that is full, one that is not, and none at all: the list is tested before all of these. */
    private static final List<Supplier<PforDelta>> STARTS =
        List.of(PforDelta::new, () -> Start.holding(0, 3, 7), Start::bothFull);

    public static void main(String[] args) {
        Check.boundary("use: the 512th call", TermsBoundaryTest::lastCall);
        Check.boundary("constants: BAD_ARG, FULL and NONE", TermsBoundaryTest::constants);
        Check.boundary("lists: 0 and 1, each by itself", TermsBoundaryTest::twoLists);
        Check.boundary("numbers: at most 64", TermsBoundaryTest::atMost64);
        Check.boundary("numbers: 0 is one", TermsBoundaryTest::leastNumber);
        Check.boundary("numbers: 1000000 is one", TermsBoundaryTest::greatestNumber);
        Check.boundary("numbers: place 0 has the least", TermsBoundaryTest::increasing);
        noList();
        Check.boundary("promise 1: list 0 is empty", () -> newListIsEmpty(0));
        Check.boundary("promise 1: list 1 is empty", () -> newListIsEmpty(1));
        Check.boundary("promise 1: nothing is packed", TermsBoundaryTest::newObjectHasNothingPacked);
        Check.boundary("promise 1: nothing is common", TermsBoundaryTest::newObjectHasNothingCommon);
        Check.boundary("promise 1: an old object's lists stay its own", TermsBoundaryTest::objectsShareNothing);
        Check.finish();
    }

    /** Each call of the face that names a list, with arguments that are good and with such as are refused. */
    private static void noList() {
        noSuchList("append", l -> x -> x.append(l, 2000), l -> x -> x.append(l, -1), l -> x -> x.append(l, 3));
        noSuchList("run", l -> x -> x.run(l, 1, 1), l -> x -> x.run(l, 64, 1), l -> x -> x.run(l, 0, 1),
            l -> x -> x.run(l, -1, 0), l -> x -> x.run(l, HIGH, HIGH));
        noSuchList("insert", l -> x -> x.insert(l, 5), l -> x -> x.insert(l, 3), l -> x -> x.insert(l, 9),
            l -> x -> x.insert(l, HIGH));
        noSuchList("remove", l -> x -> x.remove(l, 3), l -> x -> x.remove(l, 9), l -> x -> x.remove(l, 5),
            l -> x -> x.remove(l, LOW));
        noSuchList("clear", l -> x -> x.clear(l));
        noSuchList("size", l -> x -> x.size(l));
        noSuchList("at", l -> x -> x.at(l, 0), l -> x -> x.at(l, -1), l -> x -> x.at(l, 64), l -> x -> x.at(l, LOW),
            l -> x -> x.at(l, HIGH));
        noSuchList("seek", l -> x -> x.seek(l, 3), l -> x -> x.seek(l, LOW), l -> x -> x.seek(l, HIGH));
        noSuchList("sum", l -> x -> x.sum(l, 0, 1), l -> x -> x.sum(l, 1, 0), l -> x -> x.sum(l, LOW, HIGH),
            l -> x -> x.sum(l, 64, 64));
        noSuchList("blocks", l -> x -> x.blocks(l));
        noSuchList("base", l -> x -> x.base(l, 0), l -> x -> x.base(l, -1), l -> x -> x.base(l, 8),
            l -> x -> x.base(l, LOW), l -> x -> x.base(l, HIGH));
        noSuchList("blockSize", l -> x -> x.blockSize(l, 0), l -> x -> x.blockSize(l, -1), l -> x -> x.blockSize(l, 8),
            l -> x -> x.blockSize(l, LOW), l -> x -> x.blockSize(l, HIGH));
        noSuchList("tail", l -> x -> x.tail(l));
    }

    private interface CallOnList {
        ToIntFunction<PforDelta> on(int l);
    }

    private static void noSuchList(String name, CallOnList... calls) {
        Check.boundary("list not 0 or 1, tested first: " + name, () -> {
            for (int l : Start.NO_LISTS) {
                for (int call = 0; call < calls.length; call++) {
                    for (Supplier<PforDelta> start : STARTS) {
                        String what = name + " of list " + l + ", call " + call;
                        Later.refused(what, start, calls[call].on(l), BAD_ARG);
                    }
                }
            }
        });
    }

    /** 511 calls of every kind that changes a list, and one more whose answer needs them all. */
    private static void lastCall() {
        PforDelta x = new PforDelta();
        for (int call = 0; call < 255; call++) {
            Check.due("append before remove", x.append(0, call), 1);
            Check.due("remove", x.remove(0, call), 0);
        }
        Check.due("the 511th call", x.run(0, 64, 1000), 64);
        Check.due("the 512th call", x.sum(0, 0, 63), 1000 * 65 * 32 - 64);
    }

    private static void constants() {
        Check.due("BAD_ARG", PforDelta.BAD_ARG, BAD_ARG);
        Check.due("FULL", PforDelta.FULL, FULL);
        Check.due("NONE", PforDelta.NONE, NONE);
    }

    private static void twoLists() {
        for (int l : Start.LISTS) {
            PforDelta x = new PforDelta();
            Check.due("run", x.run(l, 64, 10), 64);
            Check.due("size of the other", x.size(1 - l), 0);
            Check.due("append to the other", x.append(1 - l, 5), 1);
            Check.due("insert into the other", x.insert(1 - l, 3), 0);
            Later.holds("beside a full one", x, 1 - l, 3, 5);
            Check.due("the last of the full one", x.at(l, 63), 639);
            Check.due("remove from the other", x.remove(1 - l, 3), 0);
            Check.due("clear the other", x.clear(1 - l), 1);
            Check.due("size of the full one", x.size(l), 64);
        }
    }

    private static void atMost64() {
        for (int l : Start.LISTS) {
            PforDelta x = new PforDelta();
            for (int n = 0; n < 64; n++) {
                Check.due("append number " + n, x.append(l, 2 * n), n + 1);
            }
            Check.due("append the 65th", x.append(l, 128), FULL);
            Check.due("insert the 65th", x.insert(l, 1), FULL);
            Check.due("run the 65th", x.run(l, 1, 1), FULL);
            Check.due("size", x.size(l), 64);
        }
    }

    private static void leastNumber() {
        for (int l : Start.LISTS) {
            Check.due("append(l, 0)", Start.holding(l).append(l, 0), 1);
            Check.due("insert(l, 0)", Start.holding(l).insert(l, 0), 0);
            PforDelta x = Start.holding(l);
            Check.due("run(l, 1, 1)", x.run(l, 1, 1), 1);
            Later.holds("after run(l, 1, 1)", x, l, 0);
        }
    }

    private static void greatestNumber() {
        for (int l : Start.LISTS) {
            Check.due("append(l, 1000000)", Start.holding(l, 3).append(l, 1000000), 2);
            Check.due("insert(l, 1000000)", Start.holding(l, 3).insert(l, 1000000), 1);
            PforDelta x = Start.holding(l, 999000);
            Check.due("run(l, 1, 1000)", x.run(l, 1, 1000), 2);
            Later.holds("after run(l, 1, 1000)", x, l, 999000, 1000000);
        }
    }

    private static void increasing() {
        for (int l : Start.LISTS) {
            PforDelta x = Start.holding(l, 20);
            Check.due("insert(l, 0)", x.insert(l, 0), 0);
            Check.due("insert(l, 30)", x.insert(l, 30), 2);
            Check.due("insert(l, 21)", x.insert(l, 21), 2);
            Check.due("insert(l, 19)", x.insert(l, 19), 1);
            Later.holds("after five inserts", x, l, 0, 19, 20, 21, 30);
        }
    }

    private static void newListIsEmpty(int l) {
        PforDelta x = new PforDelta();
        Check.due("size", x.size(l), 0);
        Check.due("at", x.at(l, 0), NONE);
        Check.due("seek", x.seek(l, LOW), NONE);
        Check.due("has", x.has(l, 0), false);
        Check.due("sum", x.sum(l, LOW, HIGH), 0);
        Check.due("blocks", x.blocks(l), 0);
        Check.due("base", x.base(l, 0), NONE);
        Check.due("blockSize", x.blockSize(l, 0), NONE);
        Check.due("tail", x.tail(l), NONE);
        Check.due("remove", x.remove(l, 0), NONE);
        Check.due("clear", x.clear(l), 0);
        Check.due("append 0, as there is no last number", x.append(l, 0), 1);
    }

    private static void newObjectHasNothingPacked() {
        Check.due("packed", new PforDelta().packed(), 0);
    }

    private static void newObjectHasNothingCommon() {
        PforDelta x = new PforDelta();
        Check.due("common", x.common(), 0);
        Check.due("commonAt", x.commonAt(0), NONE);
    }

    private static void objectsShareNothing() {
        PforDelta old = Start.bothFull();
        PforDelta x = new PforDelta();
        Check.due("size of list 0", x.size(0), 0);
        Check.due("size of list 1", x.size(1), 0);
        x.append(0, 5);
        Check.due("the old object's first number", old.at(0, 0), 9);
        Check.due("the old object's size", old.size(0), 64);
    }
}
