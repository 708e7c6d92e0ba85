/** The boundary cases of the calls that change a list: promises 2 to 6. */
public final class ChangeBoundaryTest {
    private static final int BAD_ARG = -1;
    private static final int FULL = -2;
    private static final int NONE = -4;
    private static final int LOW = Start.LOW;
    private static final int HIGH = Start.HIGH;
    private static final int[] TOO_SMALL = {-1, -1000000, LOW};
    private static final int[] TOO_GREAT = {1000001, HIGH - 1, HIGH};

    public static void main(String[] args) {
        for (int l : Start.LISTS) {
            append(l);
            appendOrder(l);
            runArguments(l);
            runRoom(l);
            runOrder(l);
            runOfNothing(l);
            insert(l);
            insertOrder(l);
            remove(l);
            clear(l);
        }
        Check.finish();
    }

    private static void append(int l) {
        Check.boundary("2 append: x below 0, list " + l, () -> appendRefuses(l, TOO_SMALL));
        Check.boundary("2 append: x above 1000000, list " + l, () -> appendRefuses(l, TOO_GREAT));
        Check.boundary("2 append: x is the last number, list " + l, () -> appendOfLast(l));
        Check.boundary("2 append: x below the last number, list " + l, () -> appendBelowLast(l));
        Check.boundary("2 append: x just above the last number, list " + l, () -> appendAboveLast(l));
        Check.boundary("2 append: the last number was taken out, list " + l, () -> appendAfterRemove(l));
        Check.boundary("2 append: FULL, list " + l, () -> appendToFull(l));
        Check.boundary("2 append: the 64th number, list " + l, () -> appendThe64th(l));
    }

    private static void appendOrder(int l) {
        Check.boundary("2 append order: x below 0 before FULL, list " + l, () -> appendToFullRefuses(l, TOO_SMALL));
        Check.boundary("2 append order: x above 1000000 before FULL, list " + l,
            () -> appendToFullRefuses(l, TOO_GREAT));
        Check.boundary("2 append order: not greater than the last before FULL, list " + l,
            () -> appendToFullRefuses(l, 639, 638, 9, 5, 0));
        Check.boundary("2 append order: nothing is greater than 1000000, before FULL, list " + l,
            () -> appendAfterTheTop(l));
    }

    private static void appendRefuses(int l, int... wrong) {
        for (int x : wrong) {
            Later.refused("append(l, " + x + ") to none", () -> Start.holding(l), o -> o.append(l, x), BAD_ARG);
            Later.refused("append(l, " + x + ") to two", () -> Start.holding(l, 3, 7), o -> o.append(l, x), BAD_ARG);
        }
    }

    private static void appendOfLast(int l) {
        Later.refused("append 7 after 7", () -> Start.holding(l, 3, 7), o -> o.append(l, 7), BAD_ARG);
        Later.refused("append 0 after 0", () -> Start.holding(l, 0), o -> o.append(l, 0), BAD_ARG);
        Later.refused("append 1000000 twice", () -> Start.holding(l, 1000000), o -> o.append(l, 1000000), BAD_ARG);
    }

    private static void appendBelowLast(int l) {
        for (int x : new int[] {6, 4, 3, 2, 0}) {
            Later.refused("append(l, " + x + ")", () -> Start.holding(l, 3, 7), o -> o.append(l, x), BAD_ARG);
        }
    }

    private static void appendAboveLast(int l) {
        PforDelta o = Start.holding(l, 3, 7);
        Check.due("append 8 after 7", o.append(l, 8), 3);
        Later.holds("after append", o, l, 3, 7, 8);
        Check.due("append 1000000 after 999999", Start.holding(l, 999999).append(l, 1000000), 2);
    }

    private static void appendAfterRemove(int l) {
        PforDelta o = Start.holding(l, 3, 7);
        Check.due("remove 7", o.remove(l, 7), 1);
        Check.due("append 3 after 3", o.append(l, 3), BAD_ARG);
        Check.due("append 4 after 3", o.append(l, 4), 2);
        Check.due("clear", o.clear(l), 2);
        Check.due("append 0 to none", o.append(l, 0), 1);
        Later.holds("after all", o, l, 0);
    }

    private static void appendToFull(int l) {
        for (int x : new int[] {640, 1000, 1000000}) {
            Later.refused("append(l, " + x + ") to 64", () -> Start.full(l), o -> o.append(l, x), FULL);
        }
    }

    private static void appendThe64th(int l) {
        PforDelta o = Start.tens(l, 63);
        Check.due("append to 63", o.append(l, 630), 64);
        Check.due("the number at place 63", o.at(l, 63), 630);
        Later.holds("the other list", o, 1 - l, 4, 8, 1000);
    }

    private static void appendToFullRefuses(int l, int... wrong) {
        for (int x : wrong) {
            Later.refused("append(l, " + x + ") to 64", () -> Start.full(l), o -> o.append(l, x), BAD_ARG);
        }
    }

    private static void appendAfterTheTop(int l) {
        for (int x : new int[] {LOW, 0, 1000000, 1000001, HIGH}) {
            Later.refused("append(l, " + x + ")", () -> Start.fullToTheTop(l), o -> o.append(l, x), BAD_ARG);
        }
    }

    private static void runArguments(int l) {
        Check.boundary("3 run: n below 0, list " + l, () -> runRefusesN(l, -1, -64, -65, LOW));
        Check.boundary("3 run: n above 64, list " + l, () -> runRefusesN(l, 65, 66, 1000, HIGH));
        Check.boundary("3 run: step below 1, list " + l, () -> runRefusesStep(l, 0, -1, -1000, LOW));
        Check.boundary("3 run: step above 1000, list " + l, () -> runRefusesStep(l, 1001, 1002, HIGH));
        Check.boundary("3 run: n times step wraps around, list " + l, () -> runThatWraps(l));
        Check.boundary("3 run: n is 64, list " + l, () -> runOf64(l));
        Check.boundary("3 run: step is 1, list " + l, () -> runByOne(l));
        Check.boundary("3 run: step is 1000, list " + l, () -> runByThousand(l));
        Check.boundary("3 run: the first is step - 1 in an empty list, list " + l, () -> runOnEmpty(l));
    }

    private static void runRefusesN(int l, int... wrong) {
        for (int n : wrong) {
            Later.refused("run(l, " + n + ", 1) on none", () -> Start.holding(l), o -> o.run(l, n, 1), BAD_ARG);
            Later.refused("run(l, " + n + ", 1) on two", () -> Start.holding(l, 3, 7), o -> o.run(l, n, 1), BAD_ARG);
        }
    }

    private static void runRefusesStep(int l, int... wrong) {
        for (int step : wrong) {
            Later.refused("run(l, 1, " + step + ") on none", () -> Start.holding(l), o -> o.run(l, 1, step), BAD_ARG);
            Later.refused("run(l, 2, " + step + ") on two", () -> Start.holding(l, 3, 7), o -> o.run(l, 2, step),
                BAD_ARG);
        }
    }

    private static void runThatWraps(int l) {
        int[][] wrong = {{65536, 65536}, {LOW, 2}, {2, LOW}, {64, 1 << 26}, {HIGH, HIGH}, {LOW, LOW}, {LOW, HIGH},
            {HIGH, LOW}, {-1, -1}};
        for (int[] pair : wrong) {
            String call = "run(l, " + pair[0] + ", " + pair[1] + ")";
            Later.refused(call, () -> Start.holding(l, 3), o -> o.run(l, pair[0], pair[1]), BAD_ARG);
        }
    }

    private static void runOf64(int l) {
        PforDelta o = Start.holding(l);
        Check.due("run(l, 64, 2)", o.run(l, 64, 2), 64);
        Check.due("the first", o.at(l, 0), 1);
        Check.due("the last", o.at(l, 63), 127);
        Later.holds("the other list", o, 1 - l, 4, 8, 1000);
    }

    private static void runByOne(int l) {
        PforDelta o = Start.holding(l, 5);
        Check.due("run(l, 3, 1)", o.run(l, 3, 1), 4);
        Later.holds("after run", o, l, 5, 6, 7, 8);
    }

    private static void runByThousand(int l) {
        PforDelta o = Start.holding(l, 5);
        Check.due("run(l, 2, 1000)", o.run(l, 2, 1000), 3);
        Later.holds("after run", o, l, 5, 1005, 2005);
    }

    private static void runOnEmpty(int l) {
        PforDelta o = Start.holding(l);
        Check.due("run(l, 2, 1)", o.run(l, 2, 1), 2);
        Later.holds("after steps of 1", o, l, 0, 1);
        Check.due("clear", o.clear(l), 2);
        Check.due("run(l, 2, 1000)", o.run(l, 2, 1000), 2);
        Later.holds("after steps of 1000", o, l, 999, 1999);
    }

    private static void runRoom(int l) {
        Check.boundary("3 run: FULL on 64 numbers, list " + l, () -> runOnFull(l));
        Check.boundary("3 run: FULL by one number, list " + l, () -> runOneTooMany(l));
        Check.boundary("3 run: just fills the list, list " + l, () -> runThatFills(l));
        Check.boundary("3 run: a number above 1000000, list " + l, () -> runTooHigh(l));
        Check.boundary("3 run: the last is 1000000, list " + l, () -> runToTheTop(l));
    }

    private static void runOnFull(int l) {
        for (int n : new int[] {1, 2, 64}) {
            Later.refused("run(l, " + n + ", 1) on 64", () -> Start.full(l), o -> o.run(l, n, 1), FULL);
        }
    }

    private static void runOneTooMany(int l) {
        Later.refused("run of 2 on 63", () -> Start.tens(l, 63), o -> o.run(l, 2, 1), FULL);
        Later.refused("run of 33 on 32", () -> Start.tens(l, 32), o -> o.run(l, 33, 1), FULL);
        Later.refused("run of 64 on 1", () -> Start.tens(l, 1), o -> o.run(l, 64, 1), FULL);
    }

    private static void runThatFills(int l) {
        Check.due("run of 1 on 63", Start.tens(l, 63).run(l, 1, 1), 64);
        Check.due("run of 32 on 32", Start.tens(l, 32).run(l, 32, 1), 64);
        Check.due("run of 63 on 1", Start.tens(l, 1).run(l, 63, 1), 64);
    }

    private static void runTooHigh(int l) {
        Later.refused("the first too great", () -> Start.holding(l, 1000000), o -> o.run(l, 1, 1), BAD_ARG);
        Later.refused("the last too great by 1", () -> Start.holding(l, 999998), o -> o.run(l, 3, 1), BAD_ARG);
        Later.refused("63 of step 1000", () -> Start.holding(l, 937001), o -> o.run(l, 63, 1000), BAD_ARG);
        Later.refused("one of step 1000", () -> Start.holding(l, 999001), o -> o.run(l, 1, 1000), BAD_ARG);
    }

    private static void runToTheTop(int l) {
        PforDelta o = Start.holding(l, 999998);
        Check.due("run(l, 2, 1)", o.run(l, 2, 1), 3);
        Later.holds("after run", o, l, 999998, 999999, 1000000);
        PforDelta high = Start.holding(l, 937000);
        Check.due("run(l, 63, 1000)", high.run(l, 63, 1000), 64);
        Check.due("the last", high.at(l, 63), 1000000);
    }

    private static void runOrder(int l) {
        Check.boundary("3 run order: n before FULL, list " + l, () -> runNBeforeFull(l));
        Check.boundary("3 run order: step before FULL, list " + l, () -> runStepBeforeFull(l));
        Check.boundary("3 run order: FULL before a number above 1000000, list " + l, () -> runFullBeforeTooHigh(l));
        Check.boundary("3 run order: a number above 1000000, not FULL, list " + l, () -> runTooHighNotFull(l));
    }

    private static void runNBeforeFull(int l) {
        for (int n : new int[] {65, 66, HIGH, -1, LOW}) {
            Later.refused("run(l, " + n + ", 1) on 64", () -> Start.full(l), o -> o.run(l, n, 1), BAD_ARG);
            Later.refused("run(l, " + n + ", 1) on 63", () -> Start.tens(l, 63), o -> o.run(l, n, 1), BAD_ARG);
        }
        Later.refused("run(l, 65, 1) on none", () -> Start.holding(l), o -> o.run(l, 65, 1), BAD_ARG);
    }

    private static void runStepBeforeFull(int l) {
        for (int step : new int[] {0, -1, LOW, 1001, HIGH}) {
            Later.refused("run(l, 1, " + step + ") on 64", () -> Start.full(l), o -> o.run(l, 1, step), BAD_ARG);
            Later.refused("run(l, 64, " + step + ") on 1", () -> Start.tens(l, 1), o -> o.run(l, 64, step), BAD_ARG);
        }
    }

    private static void runFullBeforeTooHigh(int l) {
        Later.refused("run of 64 on 1000000", () -> Start.holding(l, 1000000), o -> o.run(l, 64, 1), FULL);
        Later.refused("run on 64 up to the top", () -> Start.fullToTheTop(l), o -> o.run(l, 1, 1), FULL);
        Later.refused("long steps on 64 up to the top", () -> Start.fullToTheTop(l), o -> o.run(l, 64, 1000), FULL);
    }

    private static void runTooHighNotFull(int l) {
        Later.refused("run of 63 on 1000000", () -> Start.holding(l, 1000000), o -> o.run(l, 63, 1), BAD_ARG);
    }

    private static void runOfNothing(int l) {
        Check.boundary("3 run, n is 0: an empty list, list " + l, () -> runNothingKeeps(l, Start.holding(l), 0));
        Check.boundary("3 run, n is 0: some numbers, list " + l, () -> runNothingKeeps(l, Start.holding(l, 3, 7), 2));
        Check.boundary("3 run, n is 0: not FULL, list " + l, () -> runNothingKeeps(l, Start.full(l), 64));
        Check.boundary("3 run, n is 0: none above 1000000, list " + l, () -> runNothingAtTheTop(l));
        Check.boundary("3 run, n is 0: step below 1, list " + l, () -> runNothingRefuses(l, 0, -1, LOW));
        Check.boundary("3 run, n is 0: step above 1000, list " + l, () -> runNothingRefuses(l, 1001, HIGH));
    }

    private static void runNothingKeeps(int l, PforDelta o, int size) {
        Check.due("run(l, 0, 1)", o.run(l, 0, 1), size);
        Check.due("run(l, 0, 1000)", o.run(l, 0, 1000), size);
        Check.due("size", o.size(l), size);
        Check.due("the place after the last", o.at(l, size), NONE);
        Later.holds("the other list", o, 1 - l, 4, 8, 1000);
    }

    private static void runNothingAtTheTop(int l) {
        runNothingKeeps(l, Start.holding(l, 999999), 1);
        runNothingKeeps(l, Start.holding(l, 1000000), 1);
        runNothingKeeps(l, Start.fullToTheTop(l), 64);
    }

    private static void runNothingRefuses(int l, int... wrong) {
        for (int step : wrong) {
            String call = "run(l, 0, " + step + ")";
            Later.refused(call + " on none", () -> Start.holding(l), o -> o.run(l, 0, step), BAD_ARG);
            Later.refused(call + " on two", () -> Start.holding(l, 3, 7), o -> o.run(l, 0, step), BAD_ARG);
            Later.refused(call + " on 64", () -> Start.full(l), o -> o.run(l, 0, step), BAD_ARG);
            Later.refused(call + " at the top", () -> Start.fullToTheTop(l), o -> o.run(l, 0, step), BAD_ARG);
        }
    }

    private static void insert(int l) {
        Check.boundary("4 insert: x below 0, list " + l, () -> insertRefuses(l, TOO_SMALL));
        Check.boundary("4 insert: x above 1000000, list " + l, () -> insertRefuses(l, TOO_GREAT));
        Check.boundary("4 insert: x is in the list, list " + l, () -> insertAgain(l));
        Check.boundary("4 insert: x is only in the other list, list " + l, () -> insertOfOther(l));
        Check.boundary("4 insert: x was in the list, list " + l, () -> insertAfterRemove(l));
        Check.boundary("4 insert: FULL, list " + l, () -> insertIntoFull(l));
        Check.boundary("4 insert: the 64th number, list " + l, () -> insertThe64th(l));
        Check.boundary("4 insert: its place is the first, list " + l, () -> insertFirst(l));
        Check.boundary("4 insert: its place is the last, list " + l, () -> insertLast(l));
        Check.boundary("4 insert: an empty list, list " + l, () -> insertIntoNone(l));
    }

    private static void insertRefuses(int l, int... wrong) {
        for (int x : wrong) {
            Later.refused("insert(l, " + x + ") into none", () -> Start.holding(l), o -> o.insert(l, x), BAD_ARG);
            Later.refused("insert(l, " + x + ") into two", () -> Start.holding(l, 3, 7), o -> o.insert(l, x), BAD_ARG);
        }
    }

    private static void insertAgain(int l) {
        for (int x : new int[] {0, 7, 1000000}) {
            Later.refused("insert(l, " + x + ")", () -> Start.holding(l, 0, 7, 1000000), o -> o.insert(l, x), NONE);
        }
    }

    private static void insertOfOther(int l) {
        PforDelta o = Start.holding(l, 3, 7);
        Check.due("insert(l, 4)", o.insert(l, 4), 1);
        Later.holds("after insert", o, l, 3, 4, 7);
        Later.holds("after insert", o, 1 - l, 4, 8, 1000);
    }

    private static void insertAfterRemove(int l) {
        PforDelta o = Start.holding(l, 3, 7);
        Check.due("remove(l, 7)", o.remove(l, 7), 1);
        Check.due("insert(l, 7)", o.insert(l, 7), 1);
        Check.due("clear(l)", o.clear(l), 2);
        Check.due("insert(l, 3)", o.insert(l, 3), 0);
        Later.holds("after all", o, l, 3);
    }

    private static void insertIntoFull(int l) {
        for (int x : new int[] {0, 8, 10, 638, 640, 1000000}) {
            Later.refused("insert(l, " + x + ") into 64", () -> Start.full(l), o -> o.insert(l, x), FULL);
        }
    }

    private static void insertThe64th(int l) {
        for (int x : new int[] {0, 10, 1000000}) {
            PforDelta o = Start.tens(l, 63);
            Check.due("insert(l, " + x + ")", o.insert(l, x), x == 0 ? 0 : x == 10 ? 1 : 63);
            Check.due("size", o.size(l), 64);
            Check.due("the last", o.at(l, 63), x == 1000000 ? 1000000 : 629);
            Later.holds("the other list", o, 1 - l, 4, 8, 1000);
        }
    }

    private static void insertFirst(int l) {
        PforDelta o = Start.holding(l, 1, 7);
        Check.due("insert(l, 0)", o.insert(l, 0), 0);
        Later.holds("after insert", o, l, 0, 1, 7);
    }

    private static void insertLast(int l) {
        PforDelta o = Start.holding(l, 1, 7);
        Check.due("insert(l, 8)", o.insert(l, 8), 2);
        Check.due("insert(l, 1000000)", o.insert(l, 1000000), 3);
        Later.holds("after insert", o, l, 1, 7, 8, 1000000);
    }

    private static void insertIntoNone(int l) {
        Check.due("insert(l, 0)", Start.holding(l).insert(l, 0), 0);
        Check.due("insert(l, 1000000)", Start.holding(l).insert(l, 1000000), 0);
    }

    private static void insertOrder(int l) {
        Check.boundary("4 insert order: x below 0 before FULL, list " + l, () -> insertIntoFullRefuses(l, TOO_SMALL));
        Check.boundary("4 insert order: x above 1000000 before FULL, list " + l,
            () -> insertIntoFullRefuses(l, TOO_GREAT));
        Check.boundary("4 insert order: x is in the list before FULL, list " + l, () -> insertOfFullsOwn(l));
    }

    private static void insertIntoFullRefuses(int l, int... wrong) {
        for (int x : wrong) {
            Later.refused("insert(l, " + x + ") into 64", () -> Start.full(l), o -> o.insert(l, x), BAD_ARG);
        }
    }

    private static void insertOfFullsOwn(int l) {
        for (int x : new int[] {9, 319, 639}) {
            Later.refused("insert(l, " + x + ") into 64", () -> Start.full(l), o -> o.insert(l, x), NONE);
        }
        Later.refused("insert 1000000 again", () -> Start.fullToTheTop(l), o -> o.insert(l, 1000000), NONE);
    }

    private static void remove(int l) {
        Check.boundary("5 remove: NONE, an empty list, list " + l, () -> removeFromNone(l));
        Check.boundary("5 remove: NONE, below, between and above, list " + l, () -> removeOfAbsent(l));
        Check.boundary("5 remove: NONE, no number at all, list " + l, () -> removeOfNoNumber(l));
        Check.boundary("5 remove: NONE, only in the other list, list " + l, () -> removeOfOther(l));
        Check.boundary("5 remove: NONE the second time, list " + l, () -> removeTwice(l));
        Check.boundary("5 remove: the first and the last, list " + l, () -> removeEnds(l));
        Check.boundary("5 remove: the only number, list " + l, () -> removeOnly(l));
        Check.boundary("5 remove: from a full list, list " + l, () -> removeFromFull(l));
    }

    private static void removeFromNone(int l) {
        for (int x : new int[] {0, 4, 1000000, -1, LOW, HIGH}) {
            Later.refused("remove(l, " + x + ")", () -> Start.holding(l), o -> o.remove(l, x), NONE);
        }
    }

    private static void removeOfAbsent(int l) {
        for (int x : new int[] {0, 2, 4, 6, 8, 1000000}) {
            Later.refused("remove(l, " + x + ")", () -> Start.holding(l, 3, 7), o -> o.remove(l, x), NONE);
        }
    }

    private static void removeOfNoNumber(int l) {
        for (int x : new int[] {-1, LOW, 1000001, HIGH}) {
            Later.refused("remove(l, " + x + ")", () -> Start.holding(l, 0, 7, 1000000), o -> o.remove(l, x), NONE);
            Later.refused("remove(l, " + x + ") from 64", () -> Start.full(l), o -> o.remove(l, x), NONE);
        }
    }

    private static void removeOfOther(int l) {
        for (int x : new int[] {4, 8, 1000}) {
            Later.refused("remove(l, " + x + ")", () -> Start.full(l), o -> o.remove(l, x), NONE);
        }
    }

    private static void removeTwice(int l) {
        for (int x : new int[] {3, 7, 9}) {
            PforDelta o = Start.holding(l, 3, 7, 9);
            Check.due("remove(l, " + x + ")", o.remove(l, x), x == 3 ? 0 : x == 7 ? 1 : 2);
            Check.due("remove(l, " + x + ") again", o.remove(l, x), NONE);
            Check.due("size", o.size(l), 2);
        }
    }

    private static void removeEnds(int l) {
        PforDelta o = Start.holding(l, 0, 7, 9, 1000000);
        Check.due("remove the first", o.remove(l, 0), 0);
        Later.holds("without its first", o, l, 7, 9, 1000000);
        Check.due("remove the last", o.remove(l, 1000000), 2);
        Later.holds("without its last", o, l, 7, 9);
        Later.holds("the other list", o, 1 - l, 4, 8, 1000);
    }

    private static void removeOnly(int l) {
        PforDelta o = Start.holding(l, 3);
        Check.due("remove(l, 3)", o.remove(l, 3), 0);
        Later.holds("without its only number", o, l);
        Check.due("blocks", o.blocks(l), 0);
    }

    private static void removeFromFull(int l) {
        for (int x : new int[] {9, 319, 639}) {
            PforDelta o = Start.bothFull();
            Check.due("remove(l, " + x + ")", o.remove(l, x), x / 10);
            Check.due("size", o.size(l), 63);
            Check.due("the last", o.at(l, 62), x == 639 ? 629 : 639);
            Check.due("the place after the last", o.at(l, 63), NONE);
            Check.due("sum of the other", o.sum(1 - l, 0, 63), 64 * 9 + 10 * 63 * 32);
            Check.due("there is room for one", o.insert(l, x), x / 10);
            Check.due("and for no more", o.insert(l, 0), FULL);
        }
    }

    private static void clear(int l) {
        Check.boundary("6 clear: an empty list, list " + l, () -> clearOfNone(l));
        Check.boundary("6 clear: a full list, list " + l, () -> clearOfFull(l));
        Check.boundary("6 clear: what was there does not come back, list " + l, () -> clearForGood(l));
    }

    private static void clearOfNone(int l) {
        PforDelta o = Start.holding(l);
        Check.due("clear(l)", o.clear(l), 0);
        Later.holds("the other list", o, 1 - l, 4, 8, 1000);
        Check.due("clear of the other", o.clear(1 - l), 3);
        Check.due("clear of the other again", o.clear(1 - l), 0);
    }

    private static void clearOfFull(int l) {
        PforDelta o = Start.full(l);
        Check.due("clear(l)", o.clear(l), 64);
        Check.due("size", o.size(l), 0);
        Later.holds("the other list", o, 1 - l, 4, 8, 1000);
        Check.due("there is room for 64", o.run(l, 64, 1), 64);
    }

    private static void clearForGood(int l) {
        PforDelta o = Start.holding(l, 4, 8, 1000);
        Check.due("clear(l)", o.clear(l), 3);
        Check.due("at", o.at(l, 0), NONE);
        Check.due("has", o.has(l, 4), false);
        Check.due("seek", o.seek(l, 0), NONE);
        Check.due("sum", o.sum(l, 0, 63), 0);
        Check.due("blocks", o.blocks(l), 0);
        Check.due("common", o.common(), 0);
        Check.due("tail", o.tail(l), NONE);
        Check.due("append(l, 0)", o.append(l, 0), 1);
        Later.holds("after append", o, l, 0);
    }
}
