/** Promises 18 to 23: stream, step, progress, skipped, cell, take. */
public final class StreamsTest {
    private static final int NOTHING = NotationPress.NOTHING;
    private static final int READ = NotationPress.READ;
    private static final int SKIPPED = NotationPress.SKIPPED;
    private static final int WAITS = NotationPress.WAITS;
    private static final int ENDED = NotationPress.ENDED;

    public static void main(String[] args) {
        streamBeginsAnew();
        stepByStep();
        stepsAtTheEnd();
        stepsAtTheEndOfAFullFile();
        linesOfSixtyUnits();
        linesThatAreEmpty();
        readingsThatEndJustThere();
        constraintsOfAStream();
        doubt();
        doubtOfTheWholeLine();
        doubtByTheRight();
        tooFar();
        fullTable();
        manySkipped();
        stepThrows();
        cells();
        take();
        Due.end();
    }

    /** The number of one digit in slot 1, and a sign. */
    private static NotationPress digits() {
        return Notes.press(Notes.items(0, 1, 1, 0, 5, ';', 0, 0), Notes.items(0, 2, 2, 1));
    }

    private static void step(NotationPress x, int file, int due) {
        Due.answer("step(" + file + ")", x.step(file), due);
    }

    private static void progress(NotationPress x, int file, int rows, int doubts, int place) {
        Due.answer("progress(" + file + ")", x.progress(file), 10000 * rows + 1000 * doubts + place);
    }

    private static void streamBeginsAnew() {
        NotationPress x = digits();
        Notes.type(x, 0, "1;\nx\n33\n");
        Due.answer("no stream ahead", x.stream(0, 0), 0);
        step(x, 0, READ);
        step(x, 0, SKIPPED);
        step(x, 0, SKIPPED);
        progress(x, 0, 1, 0, 8);
        Due.answer("a stream ahead", x.stream(0, 1), 8);
        progress(x, 0, 0, 0, 0);
        Due.index("no row", () -> x.cell(0, 0, 1, 0));
        Due.index("no entry", () -> x.skipped(0, 0));
        Due.answer("no key", x.find(0, 1, 1, 0), -1);
        step(x, 0, SKIPPED);
        step(x, 0, SKIPPED);
        step(x, 0, READ);
        Due.answer("cell()", x.cell(0, 0, 2, 0), 33);
        Due.answer("the first entry", x.skipped(0, 0), 3);
        Due.answer("the second entry", x.skipped(0, 1), 3005);
        Due.answer("stream() of the other file", x.stream(1, 0), 0);
        Due.answer("stream() at once again", x.stream(0, 0), 8);
        for (int d : new int[] {-1, 2, NOTHING}) Due.index("stream(0, " + d + ")", () -> x.stream(0, d));
        for (int f : new int[] {-1, 2, NOTHING}) Due.index("stream(" + f + ", 0)", () -> x.stream(f, 0));
        step(x, 0, READ);
        Due.index("stream(0, 2)", () -> x.stream(0, 2));
        progress(x, 0, 1, 0, 3);
    }

    private static void stepByStep() {
        NotationPress x = digits();
        x.stream(0, 0);
        step(x, 0, WAITS);
        Notes.type(x, 0, "7");
        step(x, 0, WAITS);
        Notes.type(x, 0, ";");
        step(x, 0, WAITS);
        progress(x, 0, 0, 0, 0);
        Notes.type(x, 0, "\n8");
        step(x, 0, READ);
        progress(x, 0, 1, 0, 3);
        step(x, 0, WAITS);
        Notes.type(x, 0, "\n");
        step(x, 0, SKIPPED);
        progress(x, 0, 1, 0, 5);
        Due.answer("skipped()", x.skipped(0, 0), 3005);
        x.set(1, 0, 4);
        x.print(0, 0);
        step(x, 0, READ);
        Due.answer("the first row", x.cell(0, 0, 1, 0), 7);
        Due.answer("the second row", x.cell(0, 1, 1, 0), 4);
        progress(x, 1, 0, 0, 0);
    }

    private static void stepsAtTheEnd() {
        NotationPress x = digits();
        Notes.type(x, 0, "1;\n2;");
        x.stream(0, 0);
        step(x, 0, READ);
        step(x, 0, WAITS);
        x.close(0);
        step(x, 0, READ);
        progress(x, 0, 2, 0, 5);
        step(x, 0, ENDED);
        step(x, 0, ENDED);
        NotationPress y = digits();
        Notes.type(y, 0, "1;\n2");
        y.close(0);
        y.stream(0, 0);
        step(y, 0, READ);
        step(y, 0, SKIPPED);
        Due.answer("the place behind it is the end", y.skipped(0, 0), 3004);
        step(y, 0, ENDED);
        y.close(1);
        y.stream(1, 0);
        step(y, 1, ENDED);
        progress(y, 1, 0, 0, 0);
    }

    /** The last line ends with the 300th unit: with a line end there, or without one. */
    private static void stepsAtTheEndOfAFullFile() {
        for (String last : new String[] {"7;\n", " 7;", ";77"}) {
            NotationPress x = digits();
            Notes.type(x, 0, "z".repeat(296) + "\n" + last);
            x.stream(0, 0);
            step(x, 0, SKIPPED);
            if (last.endsWith("\n")) step(x, 0, READ);
            step(x, 0, WAITS);
            Due.state("a full file", () -> x.type(0, 'a'));
            x.close(0);
            if (!last.endsWith("\n")) {
                step(x, 0, SKIPPED);
                Due.answer("the last entry", x.skipped(0, 1), 297300);
            }
            step(x, 0, ENDED);
            progress(x, 0, last.endsWith("\n") ? 1 : 0, 0, 300);
        }
        NotationPress y = digits();
        Notes.type(y, 0, "z".repeat(297) + "\n7;");
        y.stream(0, 0);
        step(y, 0, SKIPPED);
        step(y, 0, WAITS);
        y.close(0);
        step(y, 0, READ);
        progress(y, 0, 1, 0, 300);
        Due.answer("stream() behind that", y.stream(0, 0), 300);
    }

    private static void linesOfSixtyUnits() {
        for (int signs = 0; signs < 2; signs++) {
            NotationPress x = new NotationPress();
            for (int slot = 0; slot < 7; slot++) x.item(0, slot, 8, 1);
            x.item(0, 7, 4, 1);
            for (int i = 0; i < signs; i++) x.item(5, '0', 0, 0);
            x.description();
            Notes.type(x, 1, "0".repeat(59) + "\n" + "0".repeat(60) + "\n" + "0".repeat(61) + "\n");
            x.stream(1, 0);
            step(x, 1, SKIPPED);
            step(x, 1, signs == 0 ? READ : SKIPPED);
            step(x, 1, SKIPPED);
            progress(x, 1, 1 - signs, 0, 183);
            Due.answer("the first entry", x.skipped(1, 0), 60);
            Due.answer("the last entry", x.skipped(1, 1 + signs), 121183);
        }
    }

    private static void linesThatAreEmpty() {
        NotationPress x = digits();
        Notes.type(x, 0, "\n\n5;\n");
        x.stream(0, 0);
        step(x, 0, SKIPPED);
        step(x, 0, SKIPPED);
        step(x, 0, READ);
        Due.answer("the first line", x.skipped(0, 0), 1);
        Due.answer("the second line", x.skipped(0, 1), 1002);
        x.close(0);
        step(x, 0, ENDED);
    }

    private static void readingsThatEndJustThere() {
        NotationPress x = Notes.press(Notes.items(2, 0, 'a', 0));
        Notes.type(x, 0, "aab\nbaa\na\n1;\n1;2\n");
        x.stream(0, 0);
        step(x, 0, SKIPPED);
        step(x, 0, READ);
        progress(x, 0, 1, 0, 8);
        Due.answer("not the first reading", x.cell(0, 0, 0, 0), Notes.word("ba"));
        step(x, 0, READ);
        Due.answer("the empty word", x.cell(0, 1, 0, 0), 0);
        Due.answer("why", x.skipped(0, 0), 4);
        NotationPress y = digits();
        Notes.type(y, 0, "1;2\n1\n");
        y.stream(0, 0);
        step(y, 0, SKIPPED);
        step(y, 0, SKIPPED);
        Due.answer("no such reading", y.skipped(0, 1), 4006);
    }

    private static void constraintsOfAStream() {
        NotationPress y = Notes.press(Notes.items(3, 1, 2, 0, 0, 2, 1, 0));
        y.constrain(0, 0, 1, 2, 0, 7);
        y.constrain(0, 3, 2, 2, 0, 99);
        Notes.type(y, 0, "x-2\nx-1\nx-3\n-x1\nzzz\n--3\nx-4\n");
        y.stream(0, 0);
        int[] due = {READ, SKIPPED, SKIPPED, SKIPPED, SKIPPED, SKIPPED, READ};
        for (int d : due) step(y, 0, d);
        int[] why = {7, 99, 7, 0, 99};
        for (int i = 0; i < why.length; i++) {
            int begin = 4 * (i + 1);
            Due.answer("why " + i, y.skipped(0, i), 1000000 * why[i] + 1000 * begin + begin + 4);
        }
        Due.index("no more entries", () -> y.skipped(0, 5));
        y.constrain(0, 1, 1, 0, 0, 5);
        Notes.type(y, 0, "x-2\n");
        step(y, 0, SKIPPED);
        Due.answer("a constraint that came later", y.skipped(0, 5), 5028032);
        Due.answer("rows stay", y.cell(0, 0, 2, 0), 2);
    }

    private static void doubt() {
        NotationPress x = Notes.press(Notes.items(1, 0, 2, 2, 0, 1, 1, 0));
        Notes.type(x, 0, "aa1\nba2\nbb3\naa4\n");
        x.stream(0, 0);
        step(x, 0, READ);
        progress(x, 0, 1, 1, 4);
        step(x, 0, READ);
        progress(x, 0, 2, 2, 8);
        step(x, 0, READ);
        progress(x, 0, 3, 2, 12);
        x.constrain(0, 1, 1, 5, 0, 3);
        step(x, 0, SKIPPED);
        progress(x, 0, 3, 2, 16);
        Due.answer("the first right reading", x.cell(0, 0, 0, 0), Notes.word("aa"));
        Due.answer("the first right reading", x.cell(0, 1, 0, 0), Notes.word("ba"));
        Due.answer("why", x.skipped(0, 0), 3012016);
        x.stream(0, 0);
        progress(x, 0, 0, 0, 0);
        step(x, 0, SKIPPED);
        progress(x, 0, 0, 0, 4);
    }

    /** Readings that end elsewhere make no doubt: there is but one that ends with the line. */
    private static void doubtOfTheWholeLine() {
        NotationPress x = Notes.press(Notes.items(2, 0, 'a', 0, 2, 1, 'a', 0));
        Notes.type(x, 1, "aab\n" + "aa\n");
        x.stream(1, 0);
        step(x, 1, SKIPPED);
        step(x, 1, READ);
        progress(x, 1, 1, 0, 7);
        NotationPress y = Notes.press(Notes.items(1, 0, 1, 2));
        for (int i = 0; i < 12; i++) Notes.type(y, 0, "a\n");
        y.stream(0, 0);
        for (int i = 1; i <= 12; i++) {
            step(y, 0, READ);
            progress(y, 0, i, Math.min(i, 9), 2 * i);
        }
    }

    /** Of several readings of a line, those that are not right make no doubt. */
    private static void doubtByTheRight() {
        NotationPress x = Notes.press(
            Notes.items(2, 0, 'x', 0, 3, 1, 1, 0, 3, 2, 1, 0),
            Notes.items(2, 0, 'x', 0, 3, 1, 1, 0, 8, 1, 1, 0, 5, '-', 0, 0));
        Notes.type(x, 0, "xxx\n" + "xxxx\n");
        Notes.type(x, 1, "xx\n" + "x--\n" + "xx--\n" + "xx-\n");
        x.stream(0, 0);
        step(x, 0, READ);
        step(x, 0, READ);
        progress(x, 0, 2, 0, 9);
        Due.answer("the word", x.cell(0, 1, 0, 0), Notes.word("x"));
        x.stream(1, 1);
        step(x, 1, READ);
        Due.answer("bits", x.cell(1, 0, 1, 0), 1);
        step(x, 1, READ);
        Due.answer("bits", x.cell(1, 1, 1, 0), 0);
        step(x, 1, READ);
        Due.answer("the word", x.cell(1, 2, 0, 0), Notes.word("x"));
        step(x, 1, SKIPPED);
        NotationPress y = Notes.press(Notes.items(2, 0, 'x', 0, 3, 1, 1, 0, 2, 2, 'x', 0));
        // "xxxx" is the bit x behind no letter, with one behind it, or behind one letter, with none behind it.
        Notes.type(y, 0, "xxxx\n");
        y.stream(0, 0);
        step(y, 0, READ);
        progress(y, 0, 1, 1, 5);
        Due.answer("the shortest word", y.cell(0, 0, 0, 0), 0);
        Due.answer("the rest", y.cell(0, 0, 2, 0), Notes.word("x"));
        NotationPress z = Notes.press(Notes.items(2, 0, 'x', 0, 3, 1, 1, 0, 8, 1, 1, 1, 3, 2, 2, 0));
        z.constrain(0, 0, 1, 2, 0, 4);
        Notes.type(z, 0, "xx--\n" + "xxxx\n" + "xxx-\n");
        z.stream(0, 0);
        step(z, 0, SKIPPED);
        Due.answer("1 is not less than 0", z.skipped(0, 0), 4000005);
        step(z, 0, READ);
        Due.answer("1 is less than 3", z.cell(0, 0, 2, 0), 3);
        step(z, 0, READ);
        Due.answer("no value in the case: x, then -", z.cell(0, 1, 1, 0), 0);
        Due.answer("two letters ahead", z.cell(0, 1, 0, 0), Notes.word("xx"));
        progress(z, 0, 2, 0, 15);
    }

    /** With 400 begun items the line is read; with one more it is skipped, whatever was found. */
    private static void tooFar() {
        for (int ahead = 0; ahead < 2; ahead++) {
            NotationPress x = new NotationPress();
            if (ahead == 1) x.item(5, 'b', 0, 0);
            x.item(1, 0, 2, 2);
            x.item(1, 1, 5, 2);
            x.item(1, 2, 2, 2);
            for (int i = 0; i < 7; i++) x.item(5, 'b', 0, 0);
            x.description();
            String line = "b".repeat(ahead) + "aaaaaaaaabbbbbbb\n";
            Notes.type(x, 0, line + "b".repeat(ahead) + "aabbbbbaabbbbbbb\n");
            x.stream(0, 0);
            step(x, 0, ahead == 0 ? READ : SKIPPED);
            if (ahead == 0) progress(x, 0, 1, 1, line.length());
            else Due.answer("why", x.skipped(0, 0), 100000000 + line.length());
            step(x, 0, READ);
        }
        NotationPress y = new NotationPress();
        for (int i = 0; i < 6; i++) y.item(1, i, 5, 2);
        y.description();
        Notes.type(y, 0, "a".repeat(30) + "\n" + "b".repeat(30) + "\n" + "a".repeat(29) + "b\n");
        y.constrain(0, 1, 7, 7, 0, 7);
        y.stream(0, 0);
        step(y, 0, SKIPPED);
        step(y, 0, READ);
        step(y, 0, SKIPPED);
        Due.answer("why", y.skipped(0, 0), 100000031);
        Due.answer("why", y.skipped(0, 1), 100062093);
    }

    private static void fullTable() {
        NotationPress x = digits();
        for (int i = 0; i < 25; i++) Notes.type(x, 0, i % 10 + ";\n");
        x.stream(0, 0);
        for (int i = 0; i < 24; i++) step(x, 0, READ);
        Due.state("25 rows", () -> x.step(0));
        progress(x, 0, 24, 0, 72);
        Due.answer("the last row", x.cell(0, 23, 1, 0), 3);
        Due.index("a row more", () -> x.cell(0, 24, 1, 0));
        x.close(0);
        Due.state("25 rows, closed", () -> x.step(0));
        NotationPress y = digits();
        for (int i = 0; i < 24; i++) Notes.type(y, 0, i % 10 + ";\n");
        y.stream(0, 0);
        for (int i = 0; i < 24; i++) step(y, 0, READ);
        step(y, 0, WAITS);
        Notes.type(y, 0, "zz");
        step(y, 0, WAITS);
        y.close(0);
        Due.state("it would be skipped", () -> y.step(0));
        Due.index("nothing is skipped", () -> y.skipped(0, 0));
        Due.answer("a new stream", y.stream(0, 1), 72);
        step(y, 0, SKIPPED);
        NotationPress z = digits();
        for (int i = 0; i < 24; i++) Notes.type(z, 1, i % 10 + ";\n");
        z.close(1);
        z.stream(1, 0);
        for (int i = 0; i < 24; i++) step(z, 1, READ);
        step(z, 1, ENDED);
    }

    private static void manySkipped() {
        NotationPress x = digits();
        for (int i = 0; i < 75; i++) Notes.type(x, 0, "\n\n\n\n");
        x.stream(0, 0);
        for (int i = 0; i < 300; i++) step(x, 0, SKIPPED);
        step(x, 0, WAITS);
        for (int i = 0; i < 300; i += 13) Due.answer("entry " + i, x.skipped(0, i), 1001 * i + 1);
        Due.answer("the last entry", x.skipped(0, 299), 299300);
        Due.index("an entry more", () -> x.skipped(0, 300));
    }

    private static void stepThrows() {
        NotationPress x = digits();
        x.stream(1, 0);
        for (int f : new int[] {-1, 2, NOTHING}) {
            Due.index("step(" + f + ")", () -> x.step(f));
            Due.index("progress(" + f + ")", () -> x.progress(f));
            Due.index("skipped(" + f + ")", () -> x.skipped(f, 0));
            Due.index("cell(" + f + ")", () -> x.cell(f, 0, 0, 0));
            Due.index("take(" + f + ")", () -> x.take(f, 0));
        }
        Due.state("no stream", () -> x.step(0));
        progress(x, 0, 0, 0, 0);
        step(x, 1, WAITS);
        Notes.type(x, 1, "z\n");
        step(x, 1, SKIPPED);
        Due.index("skipped(-1)", () -> x.skipped(1, -1));
        Due.index("skipped(1)", () -> x.skipped(1, 1));
        Due.answer("skipped(0)", x.skipped(1, 0), 2);
    }

    private static NotationPress loops() {
        NotationPress x = Notes.press(Notes.items(6, 0, 0, 0, 7, 0, 1, 0, 0, 7, 1, 0, 8, 0, 1, 2, 0, 3, 2, 1));
        Notes.type(x, 1, "0\n25642\n3111\n");
        x.stream(1, 0);
        for (int i = 0; i < 3; i++) step(x, 1, READ);
        return x;
    }

    private static void cells() {
        NotationPress x = loops();
        int[][] due = {{0, NOTHING, NOTHING, NOTHING, NOTHING}, {2, 5, 6, NOTHING, 42}, {3, 1, 1, 1, NOTHING}};
        for (int row = 0; row < 3; row++) {
            Due.answer("the count", x.cell(1, row, 0, 0), due[row][0]);
            for (int round = 0; round < 3; round++) {
                Due.answer("a round", x.cell(1, row, 7, round), due[row][1 + round]);
            }
            Due.answer("the case", x.cell(1, row, 3, 0), due[row][4]);
            Due.answer("no round", x.cell(1, row, 3, 1), NOTHING);
            Due.answer("no slot of it", x.cell(1, row, 5, 2), NOTHING);
        }
        int[][] wrong = {{0, 0, 0, 0}, {1, -1, 0, 0}, {1, 3, 0, 0}, {1, 0, -1, 0}, {1, 0, 8, 0}, {1, 0, 0, -1},
            {1, 0, 0, 3}, {1, NOTHING, 0, 0}, {1, 0, NOTHING, 0}, {1, 0, 0, Integer.MAX_VALUE}};
        for (int[] w : wrong) Due.index("cell()", () -> x.cell(w[0], w[1], w[2], w[3]));
    }

    private static void take() {
        NotationPress x = loops();
        for (int i = 0; i < 24; i++) x.set(i / 3, i % 3, 1000 + i);
        Due.answer("take(1, 1)", x.take(1, 1), 4);
        Notes.slots("take(1, 1)", x, 2, NOTHING, NOTHING, 42, NOTHING, NOTHING, NOTHING, 5);
        Due.answer("round 1", x.get(7, 1), 6);
        Due.answer("round 2", x.get(7, 2), NOTHING);
        Due.answer("all others are gone", x.get(1, 1), NOTHING);
        Due.answer("take(1, 2)", x.take(1, 2), 4);
        Due.answer("take(1, 0)", x.take(1, 0), 1);
        x.set(0, 0, 9);
        Due.answer("the row stays", x.cell(1, 0, 0, 0), 0);
        for (int row : new int[] {-1, 3, NOTHING}) Due.index("take(1, " + row + ")", () -> x.take(1, row));
        Due.index("take(0, 0)", () -> x.take(0, 0));
        Due.answer("nothing changes", x.get(0, 0), 9);
    }
}
