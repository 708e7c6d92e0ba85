/**
 * Objects for a test to start from. Unless it is told otherwise, the list that is not tested has the
 * numbers 4, 8 and 1000, so that a call which reads or writes the wrong list shows.
 */
final class Start {
    static final int[] LISTS = {0, 1};
    static final int[] NO_LISTS = {-1, 2, 3, 1 << 26, (1 << 26) + 1, Integer.MIN_VALUE, Integer.MAX_VALUE};
    static final int LOW = Integer.MIN_VALUE;
    static final int HIGH = Integer.MAX_VALUE;

    private Start() {
    }

    static PforDelta holding(int l, int... numbers) {
        PforDelta x = new PforDelta();
        fill(x, l, numbers);
        fill(x, 1 - l, 4, 8, 1000);
        return x;
    }

    /** Both lists have the numbers told. */
    static PforDelta both(int l, int[] numbers, int... others) {
        PforDelta x = new PforDelta();
        fill(x, l, numbers);
        fill(x, 1 - l, others);
        return x;
    }

    /** List l has n numbers, 9, 19, 29 and so on: 639 is the last of 64. */
    static PforDelta tens(int l, int n) {
        PforDelta x = holding(l);
        Check.due("run(" + l + ", " + n + ", 10)", x.run(l, n, 10), n);
        return x;
    }

    static PforDelta full(int l) {
        return tens(l, 64);
    }

    /** List l has 64 numbers, of which the last is 1000000. */
    static PforDelta fullToTheTop(int l) {
        PforDelta x = tens(l, 63);
        Check.due("append(" + l + ", 1000000)", x.append(l, 1000000), 64);
        return x;
    }

    static PforDelta bothFull() {
        PforDelta x = new PforDelta();
        Check.due("run(0, 64, 10)", x.run(0, 64, 10), 64);
        Check.due("run(1, 64, 10)", x.run(1, 64, 10), 64);
        return x;
    }

    /** The other list is full, and list l has been emptied. */
    static PforDelta bothFullBut(int l) {
        PforDelta x = bothFull();
        Check.due("clear(" + l + ")", x.clear(l), 64);
        return x;
    }

    private static void fill(PforDelta x, int l, int... numbers) {
        for (int i = 0; i < numbers.length; i++) {
            Check.due("append(" + l + ", " + numbers[i] + ")", x.append(l, numbers[i]), i + 1);
        }
    }
}
