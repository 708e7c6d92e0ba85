/** The boundary cases of the calls that look numbers up: promises 7 to 11. */
public final class LookupBoundaryTest {
    private static final int BAD_ARG = -1;
    private static final int NONE = -4;
    private static final int LOW = Start.LOW;
    private static final int HIGH = Start.HIGH;

    public static void main(String[] args) {
        for (int l : Start.LISTS) {
            size(l);
            at(l);
            seek(l);
            has(l);
            sum(l);
        }
        Check.boundary("10 has: no such list", LookupBoundaryTest::hasInNoList);
        Check.boundary("11 sum: BAD_ARG if there is no list", LookupBoundaryTest::sumOfNoList);
        Check.finish();
    }

    private static void size(int l) {
        Check.boundary("7 size: empty, list " + l, () -> Check.due("size", Start.holding(l).size(l), 0));
        Check.boundary("7 size: full, list " + l, () -> Check.due("size", Start.full(l).size(l), 64));
        Check.boundary("7 size: after a refused call, list " + l, () -> sizeAfterRefusals(l));
    }

    private static void sizeAfterRefusals(int l) {
        PforDelta o = Start.full(l);
        o.append(l, 640);
        o.run(l, 1, 1);
        o.insert(l, 5);
        o.insert(l, 9);
        o.remove(l, 5);
        Check.due("size", o.size(l), 64);
        Check.due("size of the other", o.size(1 - l), 3);
    }

    private static void at(int l) {
        Check.boundary("8 at: NONE, i below 0, list " + l, () -> atRefuses(l, -1, -64, -65, LOW));
        Check.boundary("8 at: NONE, i after the last, list " + l, () -> atRefuses(l, 3, 4, 63));
        Check.boundary("8 at: NONE, i above 63, list " + l, () -> atRefuses(l, 64, 65, 127, 128, 1 << 26, HIGH));
        Check.boundary("8 at: NONE, an empty list, list " + l, () -> atOfNone(l));
        Check.boundary("8 at: NONE, before and after a full list, list " + l, () -> atBesideFull(l));
        Check.boundary("8 at: the first and the last place, list " + l, () -> atEnds(l));
        Check.boundary("8 at: NONE, a place that was emptied, list " + l, () -> atEmptied(l));
    }

    private static void atRefuses(int l, int... wrong) {
        for (int i : wrong) {
            Later.refused("at(l, " + i + ")", () -> Start.holding(l, 3, 7, 9), o -> o.at(l, i), NONE);
        }
    }

    private static void atOfNone(int l) {
        for (int i : new int[] {0, 1, 63, 64, -1, LOW, HIGH}) {
            Later.refused("at(l, " + i + ")", () -> Start.holding(l), o -> o.at(l, i), NONE);
        }
    }

    private static void atBesideFull(int l) {
        for (int i : new int[] {-1, -64, 64, 65, 127, LOW, HIGH}) {
            Later.refused("at(l, " + i + ")", Start::bothFull, o -> o.at(l, i), NONE);
        }
    }

    private static void atEnds(int l) {
        PforDelta o = Start.fullToTheTop(l);
        Check.due("at(l, 0)", o.at(l, 0), 9);
        Check.due("at(l, 63)", o.at(l, 63), 1000000);
        Check.due("at(l, 0) of one", Start.holding(l, 0).at(l, 0), 0);
    }

    private static void atEmptied(int l) {
        PforDelta o = Start.holding(l, 3, 7, 9);
        o.remove(l, 3);
        Check.due("at(l, 1)", o.at(l, 1), 9);
        Check.due("at(l, 2)", o.at(l, 2), NONE);
        o.clear(l);
        Check.due("at(l, 0)", o.at(l, 0), NONE);
    }

    private static void seek(int l) {
        Check.boundary("9 seek: x below all, list " + l, () -> seekBelow(l));
        Check.boundary("9 seek: x is in the list, list " + l, () -> seekExact(l));
        Check.boundary("9 seek: x just above a number, list " + l, () -> seekAbove(l));
        Check.boundary("9 seek: NONE, x above the last, list " + l, () -> seekBeyond(l));
        Check.boundary("9 seek: NONE, an empty list, list " + l, () -> seekInNone(l));
        Check.boundary("9 seek: a full list, list " + l, () -> seekInFull(l));
        Check.boundary("9 seek: NONE, a place that was emptied, list " + l, () -> seekEmptied(l));
    }

    private static void seekBelow(int l) {
        for (int x : new int[] {2, 0, -1, LOW}) {
            Check.due("seek(l, " + x + ")", Start.holding(l, 3, 7).seek(l, x), 0);
        }
    }

    private static void seekExact(int l) {
        PforDelta o = Start.holding(l, 0, 7, 1000000);
        Check.due("seek(l, 0)", o.seek(l, 0), 0);
        Check.due("seek(l, 7)", o.seek(l, 7), 1);
        Check.due("seek(l, 1000000)", o.seek(l, 1000000), 2);
    }

    private static void seekAbove(int l) {
        PforDelta o = Start.holding(l, 0, 7, 1000000);
        Check.due("seek(l, 1)", o.seek(l, 1), 1);
        Check.due("seek(l, 8)", o.seek(l, 8), 2);
        Check.due("seek(l, 999999)", o.seek(l, 999999), 2);
    }

    private static void seekBeyond(int l) {
        for (int x : new int[] {8, 9, 1000, 1000000, 1000001, HIGH}) {
            Later.refused("seek(l, " + x + ")", () -> Start.holding(l, 3, 7), o -> o.seek(l, x), NONE);
        }
        for (int x : new int[] {1000001, HIGH}) {
            Later.refused("seek(l, " + x + ")", () -> Start.holding(l, 1000000), o -> o.seek(l, x), NONE);
        }
    }

    private static void seekInNone(int l) {
        for (int x : new int[] {LOW, -1, 0, 4, 1000000, HIGH}) {
            Later.refused("seek(l, " + x + ")", () -> Start.holding(l), o -> o.seek(l, x), NONE);
        }
    }

    private static void seekInFull(int l) {
        Check.due("seek(l, LOW)", Start.bothFull().seek(l, LOW), 0);
        Check.due("seek(l, 630)", Start.bothFull().seek(l, 630), 63);
        Check.due("seek(l, 639)", Start.bothFull().seek(l, 639), 63);
        PforDelta o = Start.full(l);
        // List 1 stands behind list 0 in the cells: its 1000 is not the first number of 640 or more.
        Check.due("seek(l, 640)", o.seek(l, 640), NONE);
        Check.due("seek(l, HIGH)", o.seek(l, HIGH), NONE);
    }

    private static void seekEmptied(int l) {
        PforDelta o = Start.holding(l, 3, 7);
        o.remove(l, 7);
        Check.due("seek(l, 7)", o.seek(l, 7), NONE);
        o.clear(l);
        Check.due("seek(l, 3)", o.seek(l, 3), NONE);
    }

    private static void has(int l) {
        Check.boundary("10 has: the first and the last, list " + l, () -> hasEnds(l));
        Check.boundary("10 has: what is not in the list, list " + l, () -> hasNot(l));
        Check.boundary("10 has: no number at all, list " + l, () -> hasNoNumber(l));
        Check.boundary("10 has: an empty list, list " + l, () -> hasInNone(l));
        Check.boundary("10 has: what was taken out, list " + l, () -> hasNoMore(l));
    }

    private static void hasEnds(int l) {
        PforDelta o = Start.holding(l, 0, 1000000);
        Check.due("has(l, 0)", o.has(l, 0), true);
        Check.due("has(l, 1000000)", o.has(l, 1000000), true);
        Check.due("has(l, 9) of 64", Start.full(l).has(l, 9), true);
        Check.due("has(l, 639) of 64", Start.full(l).has(l, 639), true);
    }

    private static void hasNot(int l) {
        PforDelta o = Start.holding(l, 3, 7);
        for (int x : new int[] {0, 2, 4, 6, 8, 1000, 1000000}) {
            Check.due("has(l, " + x + ")", o.has(l, x), false);
        }
        Check.due("has(l, 1000) of 64", Start.full(l).has(l, 1000), false);
    }

    private static void hasNoNumber(int l) {
        for (int x : new int[] {-1, LOW, 1000001, HIGH}) {
            Check.due("has(l, " + x + ")", Start.holding(l, 0, 1000000).has(l, x), false);
            Check.due("has(l, " + x + ") of 64", Start.bothFull().has(l, x), false);
        }
    }

    private static void hasInNone(int l) {
        for (int x : new int[] {0, 4, 1000000, -1, LOW, HIGH}) {
            Check.due("has(l, " + x + ")", Start.holding(l).has(l, x), false);
        }
    }

    private static void hasNoMore(int l) {
        PforDelta o = Start.holding(l, 3, 7);
        o.remove(l, 7);
        Check.due("has(l, 7) after remove", o.has(l, 7), false);
        o.clear(l);
        Check.due("has(l, 3) after clear", o.has(l, 3), false);
    }

    private static void hasInNoList() {
        for (int l : Start.NO_LISTS) {
            for (int x : new int[] {9, 639, 5, 0, -1, LOW, HIGH}) {
                Later.refused("has(" + l + ", " + x + ")", Start::bothFull, o -> o.has(l, x) ? 1 : 0, 0);
            }
        }
    }

    private static void sum(int l) {
        Check.boundary("11 sum: both places included, list " + l, () -> sumIs(l, new int[][] {
            {0, 3, 1111}, {0, 0, 1}, {3, 3, 1000}, {1, 2, 110}, {0, 1, 11}, {2, 3, 1100}}));
        Check.boundary("11 sum: 0, i after j, list " + l, () -> sumIs(l, new int[][] {
            {1, 0, 0}, {3, 2, 0}, {3, 0, 0}, {0, -1, 0}, {HIGH, LOW, 0}}));
        Check.boundary("11 sum: i below 0, list " + l, () -> sumIs(l, new int[][] {
            {-1, 0, 1}, {-1, 3, 1111}, {LOW, 1, 11}, {LOW, 0, 1}}));
        Check.boundary("11 sum: j after the last, list " + l, () -> sumIs(l, new int[][] {
            {3, 4, 1000}, {0, 4, 1111}, {2, 64, 1100}, {1, HIGH, 1110}}));
        Check.boundary("11 sum: i below 0 and j after the last, list " + l, () -> sumIs(l, new int[][] {
            {-1, 4, 1111}, {LOW, HIGH, 1111}, {-64, 128, 1111}}));
        Check.boundary("11 sum: 0, all below 0, list " + l, () -> sumIs(l, new int[][] {
            {-1, -1, 0}, {-5, -1, 0}, {LOW, -1, 0}, {LOW, LOW, 0}}));
        Check.boundary("11 sum: 0, all after the last, list " + l, () -> sumIs(l, new int[][] {
            {4, 4, 0}, {4, 9, 0}, {63, 64, 0}, {64, HIGH, 0}, {HIGH, HIGH, 0}}));
        Check.boundary("11 sum: 0, an empty list, list " + l, () -> sumOfNone(l));
        Check.boundary("11 sum: a full list, list " + l, () -> sumOfFull(l));
        Check.boundary("11 sum: the greatest numbers, list " + l, () -> sumOfGreatest(l));
        Check.boundary("11 sum: places that were emptied, list " + l, () -> sumOfEmptied(l));
    }

    /** Rows of i, j and the sum that is due, of the numbers 1, 10, 100 and 1000. */
    private static void sumIs(int l, int[][] rows) {
        PforDelta o = Start.holding(l, 1, 10, 100, 1000);
        for (int[] row : rows) {
            Check.due("sum(l, " + row[0] + ", " + row[1] + ")", o.sum(l, row[0], row[1]), row[2]);
        }
    }

    private static void sumOfNone(int l) {
        PforDelta o = Start.holding(l);
        Check.due("sum(l, 0, 0)", o.sum(l, 0, 0), 0);
        Check.due("sum(l, 0, 63)", o.sum(l, 0, 63), 0);
        Check.due("sum(l, LOW, HIGH)", o.sum(l, LOW, HIGH), 0);
    }

    private static void sumOfFull(int l) {
        int all = 64 * 9 + 10 * 63 * 32;
        PforDelta o = Start.bothFull();
        Check.due("sum(l, 0, 63)", o.sum(l, 0, 63), all);
        Check.due("sum(l, -64, 127)", o.sum(l, -64, 127), all);
        Check.due("sum(l, LOW, HIGH)", o.sum(l, LOW, HIGH), all);
        Check.due("sum(l, 63, 64)", o.sum(l, 63, 64), 639);
        Check.due("sum(l, 64, 127)", o.sum(l, 64, 127), 0);
    }

    private static void sumOfGreatest(int l) {
        PforDelta o = Start.holding(l, 999937);
        Check.due("run(l, 63, 1)", o.run(l, 63, 1), 64);
        Check.due("the last", o.at(l, 63), 1000000);
        Check.due("sum(l, 0, 63)", o.sum(l, 0, 63), 63997984);
    }

    private static void sumOfEmptied(int l) {
        PforDelta o = Start.holding(l, 1, 10, 100);
        o.remove(l, 1);
        Check.due("sum(l, 0, 2) after remove", o.sum(l, 0, 2), 110);
        o.clear(l);
        Check.due("sum(l, 0, 2) after clear", o.sum(l, 0, 2), 0);
    }

    private static void sumOfNoList() {
        int[][] places = {{0, 63}, {0, 0}, {1, 0}, {64, 64}, {-1, -1}, {LOW, HIGH}, {HIGH, LOW}};
        for (int l : Start.NO_LISTS) {
            for (int[] pair : places) {
                String call = "sum(" + l + ", " + pair[0] + ", " + pair[1] + ")";
                Later.refused(call, Start::bothFull, o -> o.sum(l, pair[0], pair[1]), BAD_ARG);
                Later.refused(call, PforDelta::new, o -> o.sum(l, pair[0], pair[1]), BAD_ARG);
            }
        }
    }
}
