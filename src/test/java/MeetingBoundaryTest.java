/** The boundary cases of the calls on both lists: promises 16 to 18. */
public final class MeetingBoundaryTest {
    private static final int NONE = -4;
    private static final int LOW = Start.LOW;
    private static final int HIGH = Start.HIGH;

    public static void main(String[] args) {
        Check.boundary("16 common: one list is empty", MeetingBoundaryTest::commonWithNone);
        Check.boundary("16 common: no number in both", MeetingBoundaryTest::commonOfApart);
        Check.boundary("16 common: only the first or the last in both", MeetingBoundaryTest::commonEnds);
        Check.boundary("16 common: 64 numbers in both", () -> Check.due("common", Start.bothFull().common(), 64));
        Check.boundary("16 common: what was taken out is in no list", MeetingBoundaryTest::commonNoMore);
        Check.boundary("17 commonAt: NONE, k below 0", () -> commonAtRefuses(-1, -2, -64, LOW));
        Check.boundary("17 commonAt: NONE, there are just k", () -> commonAtRefuses(3));
        Check.boundary("17 commonAt: NONE, there are fewer than k", () -> commonAtRefuses(4, 63, 64, 128, HIGH));
        Check.boundary("17 commonAt: 0 is the first", MeetingBoundaryTest::commonAtFirst);
        Check.boundary("17 commonAt: the last", MeetingBoundaryTest::commonAtLast);
        Check.boundary("17 commonAt: NONE, no number in both", MeetingBoundaryTest::commonAtOfApart);
        Check.boundary("17 commonAt: 64 numbers in both", MeetingBoundaryTest::commonAtOfFull);
        for (int l : Start.LISTS) {
            tail(l);
        }
        Check.finish();
    }

    private static int[] list(int... numbers) {
        return numbers;
    }

    private static void commonWithNone() {
        Check.due("both empty", new PforDelta().common(), 0);
        for (int l : Start.LISTS) {
            Check.due("one empty", Start.both(l, list(0, 3, 5)).common(), 0);
        }
    }

    private static void commonOfApart() {
        for (int l : Start.LISTS) {
            Check.due("one above the other", Start.both(l, list(0, 1), 2, 3).common(), 0);
            Check.due("by turns", Start.both(l, list(0, 2, 4), 1, 3, 5).common(), 0);
        }
    }

    private static void commonEnds() {
        for (int l : Start.LISTS) {
            Check.due("the first, 0", Start.both(l, list(0, 2, 4), 0, 3, 5).common(), 1);
            Check.due("the last, 1000000", Start.both(l, list(2, 1000000), 3, 1000000).common(), 1);
            Check.due("the last of one, the first of the other", Start.both(l, list(2, 5), 5, 7).common(), 1);
        }
    }

    private static void commonNoMore() {
        for (int l : Start.LISTS) {
            PforDelta o = Start.both(l, list(3, 7), 3, 7);
            o.remove(l, 7);
            Check.due("after remove", o.common(), 1);
            Check.due("the one left", o.commonAt(0), 3);
            o.clear(l);
            Check.due("after clear", o.common(), 0);
            Check.due("none left", o.commonAt(0), NONE);
        }
    }

    private static void commonAtRefuses(int... wrong) {
        for (int l : Start.LISTS) {
            for (int k : wrong) {
                Later.refused("commonAt(" + k + ")", () -> Start.both(l, list(0, 3, 5, 9), 0, 4, 5, 9, 10),
                    o -> o.commonAt(k), NONE);
            }
        }
    }

    private static void commonAtFirst() {
        for (int l : Start.LISTS) {
            Check.due("0 in both", Start.both(l, list(0, 3), 0, 3).commonAt(0), 0);
            Check.due("after one that is not", Start.both(l, list(2, 3, 8), 3, 8).commonAt(0), 3);
        }
    }

    private static void commonAtLast() {
        for (int l : Start.LISTS) {
            Check.due("1000000 in both", Start.both(l, list(0, 3, 1000000), 0, 4, 1000000).commonAt(1), 1000000);
            Check.due("before one that is not", Start.both(l, list(2, 3, 8), 2, 3, 9).commonAt(1), 3);
        }
    }

    private static void commonAtOfApart() {
        for (int k : new int[] {0, 1, -1, LOW, HIGH}) {
            Later.refused("commonAt(" + k + ") of none", PforDelta::new, o -> o.commonAt(k), NONE);
            for (int l : Start.LISTS) {
                Later.refused("commonAt(" + k + ") with none", () -> Start.both(l, list(3, 5)), o -> o.commonAt(k),
                    NONE);
                Later.refused("commonAt(" + k + ")", () -> Start.both(l, list(3, 5), 4, 6), o -> o.commonAt(k), NONE);
            }
        }
    }

    private static void commonAtOfFull() {
        PforDelta o = Start.bothFull();
        Check.due("commonAt(0)", o.commonAt(0), 9);
        Check.due("commonAt(63)", o.commonAt(63), 639);
        for (int k : new int[] {64, 65, 128, -1, LOW, HIGH}) {
            Later.refused("commonAt(" + k + ")", Start::bothFull, x -> x.commonAt(k), NONE);
        }
    }

    private static void tail(int l) {
        Check.boundary("18 tail: NONE, an empty list, list " + l, () -> tailOfNone(l));
        Check.boundary("18 tail: NONE, the other list is empty, list " + l, () -> tailBesideNone(l));
        Check.boundary("18 tail: NONE, the last is not in the other, list " + l, () -> tailLastApart(l));
        Check.boundary("18 tail: only the last is in the other, list " + l, () -> tailOfLast(l));
        Check.boundary("18 tail: all are in the other, list " + l, () -> tailOfAll(l));
        Check.boundary("18 tail: all but the first are in the other, list " + l, () -> tailOfAllButFirst(l));
        Check.boundary("18 tail: it begins after the last that is not in the other, list " + l, () -> tailAfterGap(l));
        Check.boundary("18 tail: more numbers of the other do not count, list " + l, () -> tailBesideMore(l));
        Check.boundary("18 tail: full lists, list " + l, () -> tailOfFull(l));
    }

    private static void tailOfNone(int l) {
        Later.refused("tail beside none", PforDelta::new, o -> o.tail(l), NONE);
        Later.refused("tail beside some", () -> Start.holding(l), o -> o.tail(l), NONE);
        Later.refused("tail beside 64", () -> Start.bothFullBut(l), o -> o.tail(l), NONE);
    }

    private static void tailBesideNone(int l) {
        Later.refused("tail of some", () -> Start.both(l, list(0, 3, 5)), o -> o.tail(l), NONE);
        Later.refused("tail of 0", () -> Start.both(l, list(0)), o -> o.tail(l), NONE);
    }

    private static void tailLastApart(int l) {
        Later.refused("the last apart", () -> Start.both(l, list(3, 5, 9), 3, 5), o -> o.tail(l), NONE);
        Later.refused("the last apart by 1", () -> Start.both(l, list(3, 5, 9), 3, 5, 10), o -> o.tail(l), NONE);
    }

    private static void tailOfLast(int l) {
        Check.due("the last", Start.both(l, list(3, 5, 9), 3, 9).tail(l), 9);
        Check.due("1000000", Start.both(l, list(3, 1000000), 1000000).tail(l), 1000000);
        Check.due("the only number, 0", Start.both(l, list(0), 0).tail(l), 0);
    }

    private static void tailOfAll(int l) {
        Check.due("the first", Start.both(l, list(3, 5, 9), 3, 5, 9).tail(l), 3);
        Check.due("the first, 0", Start.both(l, list(0, 5, 9), 0, 1, 5, 9).tail(l), 0);
    }

    private static void tailOfAllButFirst(int l) {
        Check.due("the second", Start.both(l, list(3, 5, 9), 5, 9).tail(l), 5);
    }

    private static void tailAfterGap(int l) {
        Check.due("3 is in both, but 5 is not", Start.both(l, list(3, 5, 9, 11), 3, 9, 11).tail(l), 9);
    }

    private static void tailBesideMore(int l) {
        Check.due("more below, between and above", Start.both(l, list(3, 9), 0, 3, 5, 9, 20).tail(l), 3);
    }

    private static void tailOfFull(int l) {
        Check.due("equal lists", Start.bothFull().tail(l), 9);
        PforDelta o = Start.bothFull();
        o.remove(1 - l, 629);
        Check.due("one missing in the other", o.tail(l), 639);
        Check.due("all of the other", o.tail(1 - l), 9);
        o.remove(1 - l, 639);
        Check.due("the last missing in the other", o.tail(l), NONE);
    }
}
