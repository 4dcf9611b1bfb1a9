/** Promises 24 to 26: column, derived, derivedByBatch. */
public final class ColumnsTest {
    private static final int NOTHING = NotationPress.NOTHING;

    public static void main(String[] args) {
        earlierRows();
        totals();
        greatest();
        differences();
        columnsOfTheOtherFile();
        missingAtFirst();
        manyRows();
        greatNumbers();
        columnsGoOnWithTheStream();
        columnsOfLessThanBefore();
        columnThrows();
        derivedThrows();
        Due.end();
    }

    /** Slot 3 has 5, none, 2, 9, none, none, none, 4; the slot 2 tells whether there is one. */
    private static final int[] VALUES = {5, NOTHING, 2, 9, NOTHING, NOTHING, NOTHING, 4};

    private static NotationPress press(int file) {
        NotationPress x = Notes.press(Notes.items(3, 2, 1, 0, 8, 2, 1, 1, 0, 3, 1, 0));
        for (int value : VALUES) Notes.type(x, file, value == NOTHING ? "-\n" : "x" + value + "\n");
        x.stream(file, 0);
        for (int i = 0; i < VALUES.length; i++) Due.answer("step()", x.step(file), 1);
        return x;
    }

    private static void column(int kind, int window, int... due) {
        NotationPress x = press(0);
        Due.answer("column()", x.column(0, kind, 3, window), 0);
        for (int row = 0; row < due.length; row++) {
            String call = "(kind " + kind + ", window " + window + ", row " + row + ")";
            Due.answer("derived" + call, x.derived(0, row), due[row]);
            Due.answer("derivedByBatch" + call, x.derivedByBatch(0, row), due[row]);
        }
        for (int row : new int[] {-1, VALUES.length, 24, NOTHING, Integer.MAX_VALUE}) {
            Due.index("derived(0, " + row + ")", () -> x.derived(0, row));
            Due.index("derivedByBatch(0, " + row + ")", () -> x.derivedByBatch(0, row));
        }
    }

    private static void earlierRows() {
        column(0, 1, NOTHING, 5, NOTHING, 2, 9, NOTHING, NOTHING, NOTHING);
        column(0, 2, NOTHING, NOTHING, 5, NOTHING, 2, 9, NOTHING, NOTHING);
        column(0, 4, NOTHING, NOTHING, NOTHING, NOTHING, 5, NOTHING, 2, 9);
        column(0, 5, NOTHING, NOTHING, NOTHING, NOTHING, NOTHING, 5, NOTHING, 2);
    }

    private static void totals() {
        column(1, 1, 5, NOTHING, 2, 9, NOTHING, NOTHING, NOTHING, 4);
        column(1, 2, 5, 5, 2, 11, 9, NOTHING, NOTHING, 4);
        column(1, 3, 5, 5, 7, 11, 11, 9, NOTHING, 4);
        column(1, 5, 5, 5, 7, 16, 16, 11, 11, 13);
    }

    private static void greatest() {
        column(2, 1, 5, NOTHING, 2, 9, NOTHING, NOTHING, NOTHING, 4);
        column(2, 2, 5, 5, 2, 9, 9, NOTHING, NOTHING, 4);
        column(2, 3, 5, 5, 5, 9, 9, 9, NOTHING, 4);
        column(2, 5, 5, 5, 5, 9, 9, 9, 9, 9);
    }

    private static void differences() {
        for (int window = 1; window <= 5; window++) {
            column(3, window, NOTHING, NOTHING, NOTHING, 7, NOTHING, NOTHING, NOTHING, NOTHING);
        }
        NotationPress x = press(0);
        x.column(0, 3, 2, 1);
        int[] due = {NOTHING, -1, 1, 0, -1, 0, 0, 1};
        for (int row = 0; row < due.length; row++) {
            Due.answer("derived()", x.derived(0, row), due[row]);
            Due.answer("derivedByBatch()", x.derivedByBatch(0, row), due[row]);
        }
    }

    private static void columnsOfTheOtherFile() {
        NotationPress x = press(1);
        Due.answer("column(0)", x.column(0, 1, 3, 5), 0);
        Due.answer("column(1)", x.column(1, 1, 3, 5), 1);
        Due.answer("column(1), a slot without values", x.column(1, 1, 7, 5), 2);
        Due.index("no row there", () -> x.derived(0, 0));
        Due.index("no row there", () -> x.derivedByBatch(0, 0));
        Due.answer("derived()", x.derived(1, 7), 13);
        Due.answer("derivedByBatch()", x.derivedByBatch(1, 7), 13);
        Due.answer("no values", x.derived(2, 7), NOTHING);
        Due.answer("no values", x.derivedByBatch(2, 7), NOTHING);
    }

    /** None in the first two rows, then 8 and 9; in a stream behind that, 3 and none. */
    private static void missingAtFirst() {
        NotationPress x = Notes.press(Notes.items(3, 2, 1, 0, 8, 2, 1, 1, 0, 3, 1, 0),
            Notes.items(5, 'k', 0, 0, 3, 2, 1, 0, 8, 2, 1, 1, 0, 3, 1, 0));
        Notes.type(x, 0, "-\n-\nx8\nx9\nkx3\nk-\n");
        for (int kind = 0; kind < 4; kind++) x.column(0, kind, 3, 2);
        x.stream(0, 0);
        for (int i = 0; i < 4; i++) x.step(0);
        int[][] due = {{NOTHING, NOTHING, NOTHING, NOTHING}, {NOTHING, NOTHING, 8, 17}, {NOTHING, NOTHING, 8, 9},
            {NOTHING, NOTHING, NOTHING, 1}};
        for (int i = 0; i < 16; i++) {
            Due.answer("derived", x.derived(i / 4, i % 4), due[i / 4][i % 4]);
            Due.answer("derivedByBatch", x.derivedByBatch(i / 4, i % 4), due[i / 4][i % 4]);
        }
        x.stream(0, 1);
        for (int i = 0; i < 6; i++) x.step(0);
        int[][] then = {{NOTHING, NOTHING}, {3, 3}, {3, 3}, {NOTHING, NOTHING}};
        for (int i = 0; i < 8; i++) {
            Due.answer("derived in a new stream", x.derived(i / 2, i % 2), then[i / 2][i % 2]);
            Due.answer("derivedByBatch in a new stream", x.derivedByBatch(i / 2, i % 2), then[i / 2][i % 2]);
        }
    }

    private static void manyRows() {
        NotationPress x = Notes.press(Notes.items(0, 0, 2, 1));
        x.stream(0, 0);
        int[] values = new int[24];
        for (int i = 0; i < 24; i++) {
            values[i] = i * 37 % 100;
            Notes.type(x, 0, (values[i] < 10 ? "0" : "") + values[i] + "\n");
            x.step(0);
        }
        for (int kind = 0; kind < 4; kind++) x.column(0, kind, 0, 5);
        for (int row = 0; row < 24; row++) {
            int total = 0;
            int greatest = 0;
            for (int i = Math.max(0, row - 4); i <= row; i++) {
                total += values[i];
                greatest = Math.max(greatest, values[i]);
            }
            int[] due = {row < 5 ? NOTHING : values[row - 5], total, greatest,
                row == 0 ? NOTHING : values[row] - values[row - 1]};
            for (int c = 0; c < 4; c++) {
                Due.answer("derived(" + c + ", " + row + ")", x.derived(c, row), due[c]);
                Due.answer("derivedByBatch(" + c + ", " + row + ")", x.derivedByBatch(c, row), due[c]);
            }
        }
    }

    private static void greatNumbers() {
        NotationPress x = Notes.press(Notes.items(0, 0, 8, 1, 1, 1, 5, 0));
        Notes.type(x, 0, "99999999zzzzz\n".repeat(6));
        x.stream(0, 0);
        for (int i = 0; i < 6; i++) x.step(0);
        x.column(0, 1, 0, 5);
        x.column(0, 1, 1, 5);
        Due.answer("derived()", x.derived(0, 5), 499999995);
        Due.answer("derivedByBatch()", x.derivedByBatch(0, 5), 499999995);
        Due.answer("words are numbers", x.derived(1, 5), 5 * Notes.word("zzzzz"));
        Due.answer("words are numbers", x.derivedByBatch(1, 5), 5 * Notes.word("zzzzz"));
    }

    private static void columnsGoOnWithTheStream() {
        NotationPress x = Notes.press(Notes.items(0, 0, 1, 0), Notes.items(5, 'k', 0, 0, 0, 0, 1, 0));
        Due.answer("column() ahead of a stream", x.column(0, 1, 0, 2), 0);
        Due.index("derived() ahead of a stream", () -> x.derived(0, 0));
        x.stream(0, 0);
        Notes.type(x, 0, "1\n2\nk7\nk8\n");
        x.step(0);
        Due.answer("one row", x.derivedByBatch(0, 0), 1);
        Due.index("no second row", () -> x.derivedByBatch(0, 1));
        x.step(0);
        Due.answer("two rows", x.derivedByBatch(0, 1), 3);
        x.stream(0, 1);
        Due.index("none in a new stream", () -> x.derived(0, 0));
        for (int i = 0; i < 4; i++) x.step(0);
        Due.answer("rows of the new stream", x.derived(0, 1), 15);
        Due.answer("rows of the new stream", x.derivedByBatch(0, 0), 7);
        Due.index("no third row", () -> x.derived(0, 2));
    }

    /** What the rows of the stream ahead had is not kept. */
    private static void columnsOfLessThanBefore() {
        NotationPress x = Notes.press(Notes.items(0, 0, 1, 0), Notes.items(5, 'k', 0, 0, 0, 0, 1, 0));
        for (int kind = 0; kind < 4; kind++) x.column(0, kind, 0, 2);
        Notes.type(x, 0, "9\n8\n7\nk3\nk1\nk2\n");
        int[][] due = {{7 + 8, 8, -1, 9}, {2 + 1, 2, 1, 3}};
        for (int d = 0; d < 2; d++) {
            x.stream(0, d);
            for (int i = 0; i < 6; i++) x.step(0);
            for (int row = 0; row < 2; row++) Due.answer("none yet", x.derivedByBatch(0, row), NOTHING);
            Due.answer("two rows earlier", x.derivedByBatch(0, 2), due[d][3]);
            Due.answer("the total", x.derivedByBatch(1, 2), due[d][0]);
            Due.answer("the greatest", x.derivedByBatch(2, 2), due[d][1]);
            Due.answer("the greatest, from the row", x.derived(2, 2), due[d][1]);
            Due.answer("the difference", x.derivedByBatch(3, 2), due[d][2]);
        }
    }

    private static void columnThrows() {
        NotationPress x = new NotationPress();
        for (int wrong : new int[] {-1, 8, NOTHING, Integer.MAX_VALUE}) {
            int file = wrong == 8 ? 2 : wrong;
            Due.index("no file", () -> x.column(file, 0, 0, 1));
            Due.index("no slot", () -> x.column(0, 0, wrong, 1));
            Due.index("no file, no kind", () -> x.column(file, 9, 0, 1));
            Due.index("no slot, no window", () -> x.column(0, 0, wrong, 9));
        }
        for (int kind : new int[] {-1, 4, NOTHING}) Due.argument("kind " + kind, () -> x.column(0, kind, 0, 1));
        for (int window : new int[] {-1, 0, 6, NOTHING}) {
            for (int kind = 0; kind < 4; kind++) {
                int k = kind;
                Due.argument("window " + window, () -> x.column(0, k, 0, window));
            }
        }
        for (int i = 0; i < 6; i++) Due.answer("column " + i, x.column(i % 2, i % 4, i, 5), i);
        Due.state("column 6", () -> x.column(0, 0, 0, 1));
        Due.argument("column 6, out of range", () -> x.column(0, 0, 0, 0));
        Due.index("column 6, no slot", () -> x.column(0, 0, 8, 0));
    }

    private static void derivedThrows() {
        NotationPress x = press(0);
        Due.index("derived(0, 0)", () -> x.derived(0, 0));
        Due.index("derivedByBatch(0, 0)", () -> x.derivedByBatch(0, 0));
        x.column(0, 0, 0, 1);
        for (int c : new int[] {-1, 1, 6, NOTHING, Integer.MAX_VALUE}) {
            Due.index("derived(" + c + ", 0)", () -> x.derived(c, 0));
            Due.index("derivedByBatch(" + c + ", 0)", () -> x.derivedByBatch(c, 0));
        }
    }
}
