/** The boundary cases of gaps, codes, widths and blocks under "Terms", and of promises 12 to 15 and 19. */
public final class BlockBoundaryTest {
    private static final int NONE = -4;
    private static final int LOW = Start.LOW;
    private static final int HIGH = Start.HIGH;
    /** Times 8, or one more times 8, these come out as small numbers again. */
    private static final int[] WRAPPING = {1 << 29, (1 << 29) - 1, (1 << 29) + 1, 1 << 28, -(1 << 29), 1 << 30};

    public static void main(String[] args) {
        for (int l : Start.LISTS) {
            codes(l);
            widths(l);
            leastSizeAndBase(l);
            blocks(l);
            noSuchBlock(l);
            lastBlocks(l);
            packed(l);
            orderAndLimits(l);
        }
        Check.boundary("15 packed: both lists empty", () -> Check.due("packed", new PforDelta().packed(), 0));
        Check.boundary("15 packed: both lists full", BlockBoundaryTest::packedOfFull);
        Check.finish();
    }

    /** Block 0 of list l, which has these numbers, has this base and this size. */
    private static void blockIs(int l, int base, int size, int... numbers) {
        blockIs(Start.holding(l, numbers), l, 0, base, size);
    }

    private static void blockIs(PforDelta o, int l, int b, int base, int size) {
        Check.due("base(l, " + b + ")", o.base(l, b), base);
        Check.due("blockSize(l, " + b + ")", o.blockSize(l, b), size);
    }

    private static void codes(int l) {
        Check.boundary("gaps: the first number plus 1, so 0 has code 0, list " + l, () -> blockIs(l, 0, 9, 0));
        Check.boundary("gaps: the first number plus 1, so 1 has code 1, list " + l, () -> blockIs(l, 1, 10, 1));
        Check.boundary("gaps: the least is 1, its code 0, list " + l, () -> blockIs(l, 0, 9, 0, 1, 2, 3, 4, 5, 6, 7));
        Check.boundary("gaps: from the last number of the block before, list " + l, () -> codeOverBlocks(l));
        Check.boundary("gaps: the first number goes, list " + l, () -> codeAfterRemove(l));
    }

    /** The ninth number's gap is 3, its code 2, of width 2; the tenth's code is 0. */
    private static void codeOverBlocks(int l) {
        blockIs(Start.holding(l, 0, 1, 2, 3, 4, 5, 6, 7, 10), l, 1, 2, 11);
        blockIs(Start.holding(l, 0, 1, 2, 3, 4, 5, 6, 7, 8), l, 1, 0, 9);
        PforDelta moved = Start.holding(l, 1, 2, 3, 4, 5, 6, 7, 8, 9);
        moved.insert(l, 0);
        blockIs(moved, l, 0, 0, 9);
        blockIs(moved, l, 1, 0, 9);
    }

    private static void codeAfterRemove(int l) {
        PforDelta o = Start.holding(l, 0, 1);
        blockIs(o, l, 0, 0, 9);
        o.remove(l, 0);
        blockIs(o, l, 0, 1, 10);
    }

    private static void widths(int l) {
        Check.boundary("width: 0 for 0, list " + l, () -> blockIs(l, 0, 9, 0));
        Check.boundary("width: 2 to the power w is not less, list " + l, () -> widthOfPowers(l));
        Check.boundary("width: 2 to the power w less 1 is less, list " + l, () -> widthBelowPowers(l));
        Check.boundary("width: 20 for the greatest code, list " + l, () -> blockIs(l, 20, 29, 1000000));
    }

    private static void widthOfPowers(int l) {
        for (int w = 0; w <= 19; w++) {
            blockIs(l, w + 1, 9 + w + 1, 1 << w);
        }
    }

    private static void widthBelowPowers(int l) {
        for (int w = 1; w <= 19; w++) {
            blockIs(l, w, 9 + w, (1 << w) - 1);
        }
    }

    private static void leastSizeAndBase(int l) {
        Check.boundary("base: 0 is one, list " + l, () -> blockIs(l, 0, 9, 0, 1));
        Check.boundary("base: 20 is one, list " + l, () -> blockIs(l, 20, 9 + 40, 8191, 1000000));
        Check.boundary("base: the least of two, 0 and 8, list " + l, () -> blockIs(l, 0, 9 + 16, 255, 256));
        Check.boundary("base: the least of two, 12 and 20, list " + l, () -> blockIs(l, 12, 9 + 40, 4095, 1000000));
        Check.boundary("base: the least of three, 0, 8 and 12, list " + l, () -> blockIs(l, 0, 9 + 36, 0, 256, 4352));
        Check.boundary("base: just before two are the same, list " + l, () -> blockIs(l, 7, 9 + 14, 127, 128));
        Check.boundary("base: just after two are the same, list " + l, () -> blockIs(l, 0, 9 + 17, 511, 512));
        Check.boundary("size: a width of just the base counts the base, list " + l, () -> widthOfBase(l));
        Check.boundary("size: a smaller width counts the base, list " + l, () -> widthBelowBase(l));
    }

    /** Eight codes 7, all of width 3. */
    private static void widthOfBase(int l) {
        blockIs(l, 3, 9 + 8 * 3, 7, 15, 23, 31, 39, 47, 55, 63);
    }

    /** Seven codes 7 of width 3, and one code 0: three times eight, as the base is for all. */
    private static void widthBelowBase(int l) {
        blockIs(l, 3, 9 + 8 * 3, 7, 15, 23, 31, 39, 47, 55, 56);
    }

    private static void blocks(int l) {
        Check.boundary("12 blocks: none of an empty list, list " + l, () -> blocksOf(l, 0, 0));
        Check.boundary("12 blocks: one for 1 number, list " + l, () -> blocksOf(l, 1, 1));
        Check.boundary("12 blocks: one for 8 numbers, list " + l, () -> blocksOf(l, 8, 1));
        Check.boundary("12 blocks: two for 9 numbers, list " + l, () -> blocksOf(l, 9, 2));
        Check.boundary("12 blocks: seven for 56 numbers, list " + l, () -> blocksOf(l, 56, 7));
        Check.boundary("12 blocks: eight for 57 numbers, list " + l, () -> blocksOf(l, 57, 8));
        Check.boundary("12 blocks: eight for 64 numbers, list " + l, () -> blocksOf(l, 64, 8));
        Check.boundary("12 blocks: fewer after remove and clear, list " + l, () -> blocksAfterRemove(l));
    }

    private static void blocksOf(int l, int n, int want) {
        PforDelta o = Start.tens(l, n);
        Check.due("blocks of " + n, o.blocks(l), want);
        Check.due("blocks of the other", o.blocks(1 - l), 1);
    }

    private static void blocksAfterRemove(int l) {
        PforDelta o = Start.tens(l, 9);
        o.remove(l, 9);
        Check.due("blocks of 8", o.blocks(l), 1);
        Check.due("base(l, 1)", o.base(l, 1), NONE);
        Check.due("blockSize(l, 1)", o.blockSize(l, 1), NONE);
        o.clear(l);
        Check.due("blocks of none", o.blocks(l), 0);
        Check.due("base(l, 0)", o.base(l, 0), NONE);
        Check.due("blockSize(l, 0)", o.blockSize(l, 0), NONE);
    }

    private static void noSuchBlock(int l) {
        Check.boundary("13 base: NONE, b below 0, list " + l, () -> baseRefuses(l, -1, -8, LOW));
        Check.boundary("13 base: NONE, b after the last block, list " + l, () -> baseRefuses(l, 2, 3, 7));
        Check.boundary("13 base: NONE, b above 7, list " + l, () -> baseRefuses(l, 8, 9, 64, HIGH));
        Check.boundary("13 base: NONE, b times 8 wraps around, list " + l, () -> baseRefuses(l, WRAPPING));
        Check.boundary("13 base: NONE, an empty list, list " + l, () -> baseOfNone(l));
        Check.boundary("13 base: NONE, beside a full list, list " + l, () -> baseBesideFull(l));
        Check.boundary("14 blockSize: NONE, b below 0, list " + l, () -> blockSizeRefuses(l, -1, -8, LOW));
        Check.boundary("14 blockSize: NONE, b after the last block, list " + l, () -> blockSizeRefuses(l, 2, 3, 7));
        Check.boundary("14 blockSize: NONE, b above 7, list " + l, () -> blockSizeRefuses(l, 8, 9, 64, HIGH));
        Check.boundary("14 blockSize: NONE, b times 8 wraps around, list " + l, () -> blockSizeRefuses(l, WRAPPING));
        Check.boundary("14 blockSize: NONE, an empty list, list " + l, () -> blockSizeOfNone(l));
        Check.boundary("14 blockSize: NONE, beside a full list, list " + l, () -> blockSizeBesideFull(l));
    }

    private static void baseRefuses(int l, int... wrong) {
        for (int b : wrong) {
            Later.refused("base(l, " + b + ") of two", () -> Start.tens(l, 16), o -> o.base(l, b), NONE);
            Later.refused("base(l, " + b + ") of two, one short", () -> Start.tens(l, 9), o -> o.base(l, b), NONE);
        }
    }

    private static void baseOfNone(int l) {
        for (int b : new int[] {0, 1, 8, -1, LOW, HIGH}) {
            Later.refused("base(l, " + b + ")", () -> Start.holding(l), o -> o.base(l, b), NONE);
        }
    }

    private static void baseBesideFull(int l) {
        for (int b : new int[] {-1, -8, 8, 15, LOW, HIGH}) {
            Later.refused("base(l, " + b + ")", Start::bothFull, o -> o.base(l, b), NONE);
        }
    }

    private static void blockSizeRefuses(int l, int... wrong) {
        for (int b : wrong) {
            Later.refused("blockSize(l, " + b + ") of two", () -> Start.tens(l, 16), o -> o.blockSize(l, b), NONE);
            Later.refused("blockSize(l, " + b + ") of two, one short", () -> Start.tens(l, 9),
                o -> o.blockSize(l, b), NONE);
        }
    }

    private static void blockSizeOfNone(int l) {
        for (int b : new int[] {0, 1, 8, -1, LOW, HIGH}) {
            Later.refused("blockSize(l, " + b + ")", () -> Start.holding(l), o -> o.blockSize(l, b), NONE);
        }
    }

    private static void blockSizeBesideFull(int l) {
        for (int b : new int[] {-1, -8, 8, 15, LOW, HIGH}) {
            Later.refused("blockSize(l, " + b + ")", Start::bothFull, o -> o.blockSize(l, b), NONE);
        }
    }

    /** The codes of the tens are 9, of width 4, each. */
    private static void lastBlocks(int l) {
        Check.boundary("blocks: a short last block counts its own codes alone, list " + l, () -> {
            for (int n = 1; n <= 8; n++) {
                blockIs(Start.tens(l, n), l, 0, 4, 9 + 4 * n);
                blockIs(Start.tens(l, 8 + n), l, 1, 4, 9 + 4 * n);
            }
        });
        Check.boundary("blocks: places 8 b to 8 b + 7, list " + l, () -> placesOfBlocks(l));
        Check.boundary("13 and 14: the last block of a full list, list " + l, () -> {
            blockIs(Start.full(l), l, 7, 4, 9 + 4 * 8);
            blockIs(Start.bothFull(), l, 7, 4, 9 + 4 * 8);
            blockIs(Start.fullToTheTop(l), l, 7, 4, 9 + 4 * 7 + 8 + 20);
        });
        Check.boundary("blocks: what was taken out is in no block, list " + l, () -> {
            PforDelta o = Start.tens(l, 8);
            o.remove(l, 79);
            blockIs(o, l, 0, 4, 9 + 4 * 7);
        });
    }

    /** A code of width 6 at place 7, and one of width 5 at place 8. */
    private static void placesOfBlocks(int l) {
        PforDelta o = Start.holding(l, 0, 1, 2, 3, 4, 5, 6, 7 + 32, 7 + 32 + 17);
        blockIs(o, l, 0, 0, 9 + 8 + 6);
        blockIs(o, l, 1, 5, 9 + 5);
    }

    private static void packed(int l) {
        Check.boundary("15 packed: one list empty, list " + l, () -> {
            PforDelta o = Start.both(l, new int[] {3, 7, 11, 15, 19, 23, 27, 31, 32});
            Check.due("packed", o.packed(), 25 + 9);
        });
        Check.boundary("15 packed: the blocks of both lists, list " + l, () -> {
            PforDelta o = Start.both(l, new int[] {3, 7, 11, 15, 19, 23, 27, 31, 32}, 4);
            Check.due("packed", o.packed(), 25 + 9 + 12);
            o.clear(l);
            Check.due("packed after clear", o.packed(), 12);
        });
    }

    private static void packedOfFull() {
        PforDelta o = Start.bothFull();
        Check.due("packed", o.packed(), 16 * (9 + 4 * 8));
        o.clear(1);
        o.run(1, 64, 1000);
        Check.due("packed with codes of 999", o.packed(), 8 * (9 + 4 * 8) + 8 * (9 + 10 * 8));
    }

    private static void orderAndLimits(int l) {
        Check.boundary("19: a width above base 0 counts 8 and the width, list " + l,
            () -> blockIs(l, 0, 9 + (8 + 20), 0, 1, 2, 3, 4, 5, 6, 1000000));
        Check.boundary("19: a width above base 3 counts 8 and the width, list " + l,
            () -> blockIs(l, 3, 9 + 7 * 3 + (3 + 8 + 17), 7, 15, 23, 31, 39, 47, 55, 1000000));
        Check.boundary("19: above base 0 by 1 counts 9, which is more than base 1 costs all eight, list " + l,
            () -> blockIs(l, 1, 9 + 8 * 1, 0, 1, 2, 3, 4, 5, 6, 8));
        Check.boundary("19: above base 0 by 2 counts 10, which is less than base 2 costs all eight, list " + l,
            () -> blockIs(l, 0, 9 + (0 + 8 + 2), 0, 1, 2, 3, 4, 5, 6, 9));
        Check.boundary("19: two codes above the base, list " + l,
            () -> blockIs(l, 1, 9 + 6 + 2 * (1 + 8 + 11), 1, 3, 5, 7, 9, 11, 11 + 2049, 11 + 2 * 2049));
    }
}
