import java.util.Arrays;

/** Promises 11 to 17: type, print, close, unit, readings, readingsAnew, read. */
public final class FilesTest {
    private static final int NOTHING = NotationPress.NOTHING;

    public static void main(String[] args) {
        type();
        typeThrows();
        typeIntoAFullFile();
        printNumbers();
        printWords();
        printBitsAndCounts();
        printCheckDigits();
        printPlaces();
        printLoopsAndCases();
        printSixtyUnits();
        printOneUnitTooMuch();
        printThrows();
        printIntoAFullFile();
        close();
        unit();
        readingsOfOneItem();
        readingsOfWords();
        readingsOfMore();
        readingsOfTheWhole();
        readingsTakeTooFar();
        readingsOfTheLastBegun();
        readingsAtMost();
        readingsThrow();
        readInOrder();
        readFillsTheRecord();
        readThrows();
        Due.end();
    }

    private static void type() {
        NotationPress x = new NotationPress();
        Due.answer("one", x.type(0, 'a'), 1);
        Due.answer("two", x.type(0, Notes.four("bc")), 3);
        Due.answer("three", x.type(0, Notes.four("d\ne")), 6);
        Due.answer("four", x.type(0, Notes.four(" ~ ~")), 10);
        Due.answer("another file", x.type(1, Notes.four("\n\n\n\n")), 4);
        Due.text("file 0", Notes.text(x, 0), "abcd\ne ~ ~");
        Due.text("file 1", Notes.text(x, 1), "\n\n\n\n");
    }

    private static void typeThrows() {
        NotationPress x = new NotationPress();
        int[] wrong = {0, 9, 11, 31, 127, 128, 255, 'a' << 8, 'a' << 16, 'a' << 24, 'a' | 'b' << 16, 'a' | 'b' << 24,
            'a' | 'b' << 8 | 'c' << 24, 'a' | 127 << 8, 'a' | 31 << 24, -1, NOTHING, Integer.MAX_VALUE, 'a' | 200 << 24};
        for (int four : wrong) {
            Due.argument("type(0, " + four + ")", () -> x.type(0, four));
            Due.index("type(2, " + four + ")", () -> x.type(2, four));
        }
        for (int file : new int[] {-1, 2, NOTHING}) Due.index("type(" + file + ")", () -> x.type(file, 'a'));
        Due.text("nothing changes", Notes.text(x, 0), "");
        x.close(0);
        Due.state("a closed file", () -> x.type(0, 'a'));
        Due.argument("a closed file, no character", () -> x.type(0, 0));
        Due.text("a closed file", Notes.text(x, 0), "");
        Due.answer("the other one is open", x.type(1, 'a'), 1);
    }

    private static void typeIntoAFullFile() {
        NotationPress x = new NotationPress();
        for (int i = 1; i <= 74; i++) Due.answer("type()", x.type(0, Notes.four("abcd")), 4 * i);
        Due.answer("298", x.type(0, Notes.four("ab")), 298);
        Due.state("301", () -> x.type(0, Notes.four("abc")));
        Due.argument("301, no character", () -> x.type(0, 5));
        Due.answer("299", x.type(0, Notes.four("a")), 299);
        Due.state("301", () -> x.type(0, Notes.four("ab")));
        Due.answer("300", x.type(0, Notes.four("z")), 300);
        Due.state("301", () -> x.type(0, Notes.four("a")));
        Due.answer("the last unit", x.unit(0, 299), 'z');
        Due.index("behind it", () -> x.unit(0, 300));
    }

    private static void number(int width, int form, int value, String due) {
        NotationPress x = Notes.press(Notes.items(0, 2, width, form));
        x.set(2, 0, value);
        if (due == null) Due.state("number " + value, () -> x.print(0, 0));
        else Notes.prints(due, x, 0);
        Due.text("file 1", Notes.text(x, 1), "");
    }

    private static void printNumbers() {
        number(1, 0, 0, "0");
        number(1, 0, 9, "9");
        number(1, 0, 10, null);
        number(4, 0, 12, "  12");
        number(4, 1, 12, "0012");
        number(4, 2, 12, "**12");
        number(4, 1, 0, "0000");
        number(4, 2, 0, "***0");
        number(8, 1, 99999999, "99999999");
        number(8, 0, 100000000, null);
        number(8, 0, Integer.MAX_VALUE, null);
        number(8, 0, -1, null);
        number(8, 0, NOTHING + 1, null);
        number(8, 0, NOTHING, null);
        number(5, 3, 1234, "1,234");
        number(4, 3, 1234, null);
        number(4, 3, 123, " 123");
        number(3, 3, 999, "999");
        number(8, 5, 1234, "***1,234");
        number(8, 6, 123456, " 123.456");
        number(7, 8, 123456, "123.456");
        number(6, 8, 123456, null);
        number(8, 8, 1000, "***1.000");
        number(8, 3, 1000000, null);
        number(8, 3, 0, "       0");
    }

    private static void word(int width, int form, int value, String due) {
        NotationPress x = Notes.press(Notes.items(1, 2, width, form), Notes.items(2, 2, '7', 0));
        x.set(2, 0, value);
        if (due == null) Due.state("word " + value, () -> x.print(0, 0));
        else Notes.prints(due, x, 0);
    }

    private static void open(int sign, int value, String due) {
        NotationPress x = Notes.press(Notes.items(2, 2, sign, 0));
        x.set(2, 0, value);
        if (due == null) Due.state("open " + value, () -> x.print(0, 0));
        else Notes.prints(due, x, 0);
    }

    private static void printWords() {
        String face = "\uD83D\uDE00";
        word(3, 0, Notes.word("ab"), "ab ");
        word(3, 1, Notes.word("ab"), "ab.");
        word(3, 2, Notes.word("ab"), "aba");
        word(2, 0, Notes.word("az"), "az");
        word(1, 0, Notes.word("ab"), null);
        word(1, 1, 0, ".");
        word(1, 0, Notes.word("@"), null);
        word(2, 0, Notes.word("@"), face);
        word(4, 2, Notes.word("a@"), "a" + face + "a");
        word(9, 0, Notes.word("@@@@"), face + face + face + face + " ");
        word(9, 0, Notes.word("@@@@@"), null);
        word(9, 0, Notes.word("@@@@z"), face + face + face + face + "z");
        word(9, 1, 28, null);
        word(9, 1, 31, null);
        word(9, 1, 1 << 5, null);
        word(9, 1, 1 | 1 << 10, null);
        word(9, 1, 1 << 25, null);
        word(9, 1, -1, null);
        word(9, 1, NOTHING, null);
        word(9, 1, Notes.word("abcde") | 1 << 25, null);
        word(5, 1, Notes.word("abcde"), "abcde");
        open('!', Notes.word("abc"), "abc!");
        open('a', 0, "a");
        open('~', Notes.word("@@@@@"), face + face + face + face + face + "~");
        open('!', 28, null);
        open('!', 1 << 25, null);
        open('!', NOTHING, null);
    }

    private static void printBitsAndCounts() {
        NotationPress x = Notes.press(Notes.items(3, 0, 1, 0), Notes.items(3, 0, 8, 0), Notes.items(6, 0, 0, 0));
        x.set(0, 0, 1);
        Notes.prints("x", x, 0);
        Notes.prints("x-------", x, 1);
        x.set(0, 0, 0);
        Notes.prints("-", x, 0);
        x.set(0, 0, 2);
        Due.state("2 in one bit", () -> x.print(0, 0));
        Notes.prints("2", x, 2);
        x.set(0, 0, 255);
        Notes.prints("xxxxxxxx", x, 1);
        x.set(0, 0, 146);
        Notes.prints("-x--x--x", x, 1);
        x.set(0, 0, 256);
        Due.state("256 in eight bits", () -> x.print(1, 0));
        x.set(0, 0, -1);
        Due.state("-1 in bits", () -> x.print(1, 0));
        Due.state("-1 as a count", () -> x.print(2, 0));
        x.set(0, 0, 4);
        Due.state("4 as a count", () -> x.print(2, 0));
        x.set(0, 0, 3);
        Notes.prints("3", x, 2);
        x.set(0, 0, NOTHING);
        Due.state("no count", () -> x.print(2, 0));
        Due.state("no bits", () -> x.print(1, 0));
    }

    private static void printCheckDigits() {
        NotationPress x = Notes.press(
            Notes.items(4, 0, 0, 0, 4, 0, 0, 0),
            Notes.items(0, 0, 4, 1, 4, 0, 0, 0, 4, 0, 0, 0, 5, '9', 0, 0, 4, 0, 0, 0),
            Notes.items(2, 1, '7', 0, 6, 2, 0, 0, 9, 2, 0, 0, 4, 0, 0, 0),
            Notes.items(6, 2, 0, 0, 7, 2, 2, 0, 5, '5', 0, 0, 4, 0, 0, 0));
        Notes.prints("00", x, 0);
        x.set(0, 0, 123);
        // 0, 3 * 1, 2, 3 * 3 give 14; then 4 once more gives 18; then 3 * 8 gives 42, and 9 gives 51.
        x.set(0, 0, 123);
        Notes.prints("0123" + "4" + "8" + "9" + "1", x, 1);
        // 7, 3 * 2, 0, 3 * 3 give 22.
        x.set(1, 0, Notes.word("ab"));
        x.set(2, 0, 2);
        Notes.prints("ab7" + "2" + "03" + "2", x, 2);
        // 2 and 3 * 5 give 17; with 7 and 3 * 5 it is 39.
        Notes.prints("2" + "57" + "59", x, 3);
    }

    private static void printPlaces() {
        NotationPress x = Notes.press(
            Notes.items(5, 'A', 0, 0, 0, 0, 3, 0, 2, 1, '!', 0, 9, 1, 0, 0, 9, 0, 0, 0),
            Notes.items(6, 2, 0, 0, 7, 2, 2, 0, 0, 3, 1, 0, 9, 3, 0, 0, 9, 3, 0, 0, 9, 2, 0, 0),
            Notes.items(9, 0, 0, 0, 0, 0, 1, 0),
            Notes.items(6, 2, 0, 0, 8, 2, 1, 1, 0, 3, 1, 0, 9, 3, 0, 0),
            Notes.items(6, 2, 0, 0, 7, 2, 1, 0, 4, 0, 0, 0, 9, 7, 0, 0),
            Notes.items(6, 2, 0, 0, 8, 2, 1, 3, 9, 7, 0, 0));
        x.set(0, 0, 5);
        x.set(1, 0, Notes.word("c"));
        Notes.prints("A" + "  5" + "c!" + "04" + "01", x, 0);
        x.set(2, 0, 2);
        x.set(3, 0, 8);
        x.set(3, 1, 9);
        Notes.prints("2" + "801" + "901" + "01" + "00", x, 1);
        Due.state("a back to what comes behind it", () -> x.print(2, 0));
        Due.state("a back to what the case leaves out", () -> x.print(3, 0));
        Due.state("a back to no item", () -> x.print(4, 0));
        Notes.prints("2", x, 5);
        x.set(2, 0, 1);
        Notes.prints("1" + "8" + "01", x, 3);
        x.set(2, 0, 3);
        Due.state("a back in a case that is taken", () -> x.print(5, 0));
        NotationPress z = Notes.press(Notes.items(6, 2, 0, 0, 7, 2, 2, 0, 9, 3, 0, 0, 0, 3, 1, 0));
        z.set(3, 0, 8);
        z.set(3, 1, 9);
        z.set(2, 0, 2);
        Due.state("a back to what comes behind it in the round", () -> z.print(0, 0));
        z.set(2, 0, 0);
        Notes.prints("0", z, 0);
        NotationPress y = Notes.press(Notes.items(0, 0, 8, 1, 0, 1, 8, 1, 0, 2, 8, 1, 0, 3, 8, 1, 0, 4, 8, 1, 0, 5, 8, 1,
            0, 6, 8, 1, 0, 7, 1, 1, 9, 7, 0, 0));
        for (int i = 0; i < 8; i++) y.set(i, 0, 0);
        Notes.prints("0".repeat(57) + "56", y, 0);
        Due.answer("read()", y.read(0, 0, 0, 0), 59);
        Notes.type(y, 1, "0".repeat(57) + "55\n" + "0".repeat(57) + "65\n");
        Due.answer("another place", y.readings(0, 1, 0), 0);
        Due.answer("another place", y.readings(0, 1, 60), 0);
    }

    private static void printLoopsAndCases() {
        NotationPress x = Notes.press(
            Notes.items(6, 0, 0, 0, 7, 0, 2, 0, 0, 1, 1, 0, 5, ';', 0, 0, 5, 'E', 0, 0, 7, 0, 1, 0, 2, 2, '!', 0),
            Notes.items(3, 3, 2, 0, 8, 3, 1, 2, 6, 0, 0, 0, 7, 0, 1, 0, 0, 1, 1, 0, 8, 0, 1, 3, 5, 'T', 0, 0),
            Notes.items(0, 4, 2, 1, 8, 4, 2, 99, 5, 'A', 0, 0, 5, 'B', 0, 0, 8, 4, 1, 0, 5, 'C', 0, 0, 8, 4, 3, 7,
                5, 'D', 0, 0, 5, 'E', 0, 0, 5, 'F', 0, 0));
        int[] words = {Notes.word("a"), 0, Notes.word("cd")};
        for (int i = 0; i < 3; i++) {
            x.set(1, i, 7 + i);
            x.set(2, i, words[i]);
        }
        x.set(0, 0, 0);
        Notes.prints("0E", x, 0);
        x.set(0, 0, 1);
        Notes.prints("17;Ea!", x, 0);
        x.set(0, 0, 2);
        Notes.prints("27;8;Ea!!", x, 0);
        x.set(0, 0, 3);
        Notes.prints("37;8;9;Ea!!cd!", x, 0);
        x.set(1, 2, NOTHING);
        Due.state("no value in a round", () -> x.print(0, 0));
        x.set(0, 0, 2);
        Notes.prints("27;8;Ea!!", x, 0);
        // The count is 3, but where it is not printed, the loop and the case have no value of it.
        x.set(0, 0, 3);
        x.set(1, 2, 5);
        x.set(3, 0, 1);
        Notes.prints("x-", x, 1);
        x.set(3, 0, 2);
        Notes.prints("-x3785T", x, 1);
        x.set(4, 0, 99);
        Notes.prints("99AB", x, 2);
        x.set(4, 0, 0);
        Notes.prints("00C", x, 2);
        x.set(4, 0, 7);
        Notes.prints("07DEF", x, 2);
        x.set(4, 0, 8);
        Notes.prints("08", x, 2);
    }

    private static void printSixtyUnits() {
        int[] sixty = {0, 0, 8, 1, 0, 1, 8, 1, 0, 2, 8, 1, 0, 3, 8, 1, 0, 4, 8, 1, 0, 5, 8, 1, 0, 6, 8, 1, 0, 7, 4, 1};
        int[] more = Arrays.copyOf(sixty, sixty.length + 4);
        more[sixty.length] = 5;
        more[sixty.length + 1] = 'X';
        NotationPress x = Notes.press(Notes.items(sixty), Notes.items(more));
        for (int i = 0; i < 8; i++) x.set(i, 0, i);
        Due.answer("60 units", x.print(0, 0), 61);
        Due.state("61 units", () -> x.print(1, 0));
        Due.answer("readings of 60 units", x.readings(0, 0, 0), 1);
        NotationPress y = Notes.press(Notes.items(sixty), Notes.items(more));
        Notes.type(y, 0, "0".repeat(60) + "X");
        Due.answer("readings of 60 units", y.readings(0, 0, 0), 1);
        Due.answer("readings of 61 units", y.readings(1, 0, 0), 0);
        Due.answer("readingsAnew of 61 units", y.readingsAnew(1, 0, 0), 0);
        Due.answer("read() of 60 units", y.read(0, 0, 0, 0), 60);
    }

    /** Behind 57 units each of these items has four. */
    private static void printOneUnitTooMuch() {
        int[][] last = {{0, 7, 4, 1}, {1, 7, 4, 0}, {1, 7, 4, 1}, {2, 7, '!', 0}, {3, 7, 4, 0}, {2, 7, 'a', 0}};
        int[] values = {1234, Notes.word("abcd"), Notes.word("a"), Notes.word("abc"), 15, Notes.word("@c")};
        for (int i = 0; i < last.length; i++) {
            for (int signs = 0; signs < 2; signs++) {
                NotationPress x = new NotationPress();
                for (int slot = 0; slot < 7; slot++) {
                    x.item(0, slot, 8, 1);
                    x.set(slot, 0, slot);
                }
                if (signs == 1) x.item(5, 'S', 0, 0);
                x.item(last[i][0], last[i][1], last[i][2], last[i][3]);
                x.description();
                x.set(7, 0, values[i]);
                if (signs == 0) Due.answer("60 units", x.print(0, 0), 61);
                else Due.state("61 units", () -> x.print(0, 0));
                if (signs == 0) Due.answer("read()", x.read(0, 0, 0, 0), 60);
                if (signs == 0) Due.answer("its last value", x.get(7, 0), values[i]);
                else Due.index("an empty file", () -> x.unit(0, 0));
            }
        }
    }

    private static void printThrows() {
        NotationPress x = Notes.press(Notes.items(0, 0, 1, 0));
        for (int d : new int[] {-1, 1, NOTHING}) {
            Due.index("print(" + d + ", 0)", () -> x.print(d, 0));
            Due.index("print(0, " + (d == 1 ? 2 : d) + ")", () -> x.print(0, d == 1 ? 2 : d));
        }
        Due.state("print() without a value", () -> x.print(0, 0));
        x.set(0, 0, 5);
        x.constrain(0, 1, 0, 6, 0, 1);
        Due.answer("constraints do not matter", x.print(0, 0), 2);
        x.close(0);
        Due.state("print() into a closed file", () -> x.print(0, 0));
        Due.text("nothing changes", Notes.text(x, 0), "5\n");
        Due.answer("print() into the other", x.print(0, 1), 2);
        Due.answer("print() changes no value", x.get(0, 0), 5);
    }

    private static void printIntoAFullFile() {
        NotationPress x = Notes.press(Notes.items(0, 0, 3, 1), Notes.items(0, 0, 4, 1), Notes.items(0, 0, 1, 1));
        x.set(0, 0, 7);
        for (int i = 1; i <= 74; i++) Due.answer("print()", x.print(0, 0), 4 * i);
        Due.state("301", () -> x.print(1, 0));
        Due.answer("300", x.print(0, 0), 300);
        Due.state("302", () -> x.print(2, 0));
        Due.answer("the last unit", x.unit(0, 299), 10);
    }

    private static void close() {
        NotationPress x = new NotationPress();
        Due.answer("close(0)", x.close(0) ? 1 : 0, 1);
        Due.answer("close(0) again", x.close(0) ? 1 : 0, 0);
        Due.answer("close(1)", x.close(1) ? 1 : 0, 1);
        for (int file : new int[] {-1, 2, NOTHING}) Due.index("close()", () -> x.close(file) ? 1 : 0);
    }

    private static void unit() {
        NotationPress x = Notes.press(Notes.items(1, 0, 3, 0));
        x.set(0, 0, Notes.word("@b"));
        x.print(0, 1);
        int[] due = {55357, 56832, 'b', 10};
        for (int i = 0; i < due.length; i++) Due.answer("unit(1, " + i + ")", x.unit(1, i), due[i]);
        for (int place : new int[] {-1, 4, NOTHING, Integer.MAX_VALUE}) {
            Due.index("unit(1, " + place + ")", () -> x.unit(1, place));
            Due.index("unit(2, " + place + ")", () -> x.unit(2, place));
        }
        Due.index("unit(0, 0)", () -> x.unit(0, 0));
        Due.index("unit(-1, 0)", () -> x.unit(-1, 0));
    }

    /** The readings of one item from the beginning of a text: how many, and the values, where there are any. */
    private static void reads(String text, int[] item, int... values) {
        NotationPress x = new NotationPress();
        Notes.describe(x, item);
        Notes.type(x, 0, text);
        String call = "of '" + text + "' by kind " + item[0];
        Due.answer("readings " + call, x.readings(0, 0, 0), values.length);
        Due.answer("readingsAnew " + call, x.readingsAnew(0, 0, 0), values.length);
        for (int i = 0; i < values.length; i++) {
            x.read(0, 0, 0, i);
            Due.answer("reading " + i + " " + call, x.get(item[1], 0), values[i]);
        }
        Due.index("one more reading " + call, () -> x.read(0, 0, 0, values.length));
    }

    private static void readingsOfOneItem() {
        int[] plain = {0, 3, 4, 0};
        reads("  12", plain, 12);
        reads("1234", plain, 1234);
        reads("   0", plain, 0);
        reads("    ", plain);
        reads("  01", plain);
        reads("0001", plain);
        reads("12  ", plain);
        reads("1 23", plain);
        reads("**12", plain);
        reads("1,23", plain);
        reads(" 12", plain);
        reads("", plain);
        reads("  -1", plain);
        reads("  12345", plain, 12);
        int[] zeros = {0, 3, 4, 1};
        reads("0012", zeros, 12);
        reads("0000", zeros, 0);
        reads("9999", zeros, 9999);
        reads(" 012", zeros);
        reads("00x2", zeros);
        int[] marked = {0, 3, 7, 5};
        reads("**1,234", marked, 1234);
        reads("123,456", marked, 123456);
        reads("***1234", marked);
        reads("1,2,345", marked);
        reads("*12,345", marked, 12345);
        reads("*,12345", marked);
        reads("**1.234", marked);
        reads("0,12345", marked);
        reads("001,234", marked);
        reads("***,123", marked);
        reads("****123", marked, 123);
        reads("1.234.5", new int[] {0, 3, 7, 8});
        reads(" 12.345", new int[] {0, 3, 7, 6}, 12345);
        reads("99999999", new int[] {0, 3, 8, 0}, 99999999);
        reads("x--x", new int[] {3, 0, 4, 0}, 9);
        reads("x--y", new int[] {3, 0, 4, 0});
        reads("x--", new int[] {3, 0, 4, 0});
        reads("xxxxxxxx", new int[] {3, 0, 8, 0}, 255);
        for (int i = 0; i < 4; i++) reads("" + i, new int[] {6, 7, 0, 0}, i);
        reads("4", new int[] {6, 7, 0, 0});
        reads("/", new int[] {6, 7, 0, 0});
        reads("a", new int[] {6, 7, 0, 0});
        reads("\n", new int[] {6, 7, 0, 0});
    }

    private static void readingsOfWords() {
        int a = Notes.word("a");
        int aa = Notes.word("aa");
        int aaa = Notes.word("aaa");
        int aaaa = Notes.word("aaaa");
        int aaaaa = Notes.word("aaaaa");
        reads("aaa", new int[] {1, 0, 3, 2}, aaa, aa, a, 0);
        reads("aaaaaaa", new int[] {1, 0, 7, 2}, aaaaa, aaaa, aaa, aa, a, 0);
        reads("aab", new int[] {1, 0, 3, 2}, Notes.word("aab"));
        reads("baa", new int[] {1, 0, 3, 2}, Notes.word("baa"), Notes.word("ba"), Notes.word("b"));
        reads("aa", new int[] {1, 0, 3, 2});
        reads("a  ", new int[] {1, 0, 3, 0}, a);
        reads("   ", new int[] {1, 0, 3, 0}, 0);
        reads("...", new int[] {1, 0, 3, 1}, 0);
        reads("a..", new int[] {1, 0, 3, 0});
        reads("a. ", new int[] {1, 0, 3, 1});
        reads(".a.", new int[] {1, 0, 3, 1});
        reads("abcdef", new int[] {1, 0, 6, 1});
        reads("abcdea", new int[] {1, 0, 6, 2}, Notes.word("abcde"));
        reads("A", new int[] {1, 0, 1, 1});
        reads("abc!", new int[] {2, 0, '!', 0}, Notes.word("abc"));
        reads("!", new int[] {2, 0, '!', 0}, 0);
        reads("abcde!", new int[] {2, 0, '!', 0}, Notes.word("abcde"));
        reads("abcdef!", new int[] {2, 0, '!', 0});
        reads("ab", new int[] {2, 0, '!', 0});
        reads("a b!", new int[] {2, 0, '!', 0});
        reads("aaa", new int[] {2, 0, 'a', 0}, 0, a, aa);
        reads("aaaaaaaa", new int[] {2, 0, 'a', 0}, 0, a, aa, aaa, aaaa, aaaaa);
        reads("bab", new int[] {2, 0, 'b', 0}, 0, Notes.word("ba"));
        reads("a7a7", new int[] {2, 0, '7', 0}, a);
        NotationPress x = Notes.press(Notes.items(1, 0, 4, 2), Notes.items(1, 0, 1, 2), Notes.items(1, 0, 2, 2),
            Notes.items(2, 0, 'a', 0));
        x.set(0, 0, Notes.word("@a"));
        x.print(0, 0);
        Due.answer("a pair and letters", x.readings(0, 0, 0), 3);
        Due.answer("half a pair", x.readings(1, 0, 0), 0);
        Due.answer("a pair", x.readings(2, 0, 0), 1);
        Due.answer("the other half", x.readings(2, 0, 1), 0);
        Due.answer("open behind a pair", x.readings(3, 0, 0), 2);
        Due.answer("read()", x.read(3, 0, 0, 1), 4);
        Due.answer("the face and a letter", x.get(0, 0), Notes.word("@a"));
    }

    private static void readingsOfMore() {
        NotationPress x = Notes.press(
            Notes.items(0, 0, 2, 1, 4, 0, 0, 0, 9, 0, 0, 0, 5, '!', 0, 0),
            Notes.items(6, 0, 0, 0, 7, 0, 2, 0, 0, 1, 1, 0, 9, 1, 0, 0, 8, 0, 1, 2, 2, 2, '!', 0),
            Notes.items(3, 3, 1, 0, 8, 3, 1, 1, 6, 0, 0, 0, 7, 0, 1, 0, 5, 'T', 0, 0),
            Notes.items(9, 0, 0, 0, 0, 0, 1, 0));
        Notes.type(x, 0, "12700!" + "\n" + "12701!" + "\n" + "12800!" + "\n");
        Due.answer("check and place right", x.read(0, 0, 0, 0), 6);
        Due.answer("the place wrong", x.readings(0, 0, 7), 0);
        Due.answer("the check digit wrong", x.readings(0, 0, 14), 0);
        Notes.type(x, 1, "2" + "501" + "601" + "ab!" + "\n" + "0" + "\n" + "-xT" + "\n" + "x2TT" + "\n" + "x0" + "\n");
        Due.answer("two rounds and a case", x.read(1, 1, 0, 0), 10);
        Due.answer("round 0", x.get(1, 0), 5);
        Due.answer("round 1", x.get(1, 1), 6);
        Due.answer("round 2", x.get(1, 2), NOTHING);
        Due.answer("the case", x.get(2, 0), Notes.word("ab"));
        Due.answer("no round", x.read(1, 1, 11, 0), 12);
        Due.answer("no round", x.get(1, 0), NOTHING);
        Due.answer("no count", x.read(2, 1, 13, 0), 14);
        Due.answer("no count", x.get(0, 0), NOTHING);
        Due.answer("two rounds without slots", x.read(2, 1, 17, 0), 21);
        Due.answer("no rounds", x.read(2, 1, 22, 0), 24);
        Due.answer("a back to what comes behind it", x.readings(3, 1, 0), 0);
        checkDigitsOfMore();
        Due.answer("from the middle of a line", x.readings(1, 1, 11), 1);
        Due.answer("from the end", x.readings(1, 1, 25), 0);
        Due.answer("from the end anew", x.readingsAnew(1, 1, 25), 0);
    }

    /** The digits of all items ahead count in their order, those of loops and signs as well. */
    private static void checkDigitsOfMore() {
        NotationPress x = Notes.press(
            Notes.items(0, 0, 1, 0, 5, 'k', 0, 0, 0, 1, 1, 0, 2, 2, '3', 0, 4, 0, 0, 0, 0, 3, 1, 0, 4, 0, 0, 0),
            Notes.items(6, 0, 0, 0, 7, 0, 2, 0, 0, 1, 1, 0, 4, 0, 0, 0, 4, 0, 0, 0));
        // 1, 3 * 2, 3 give 10; with 3 * 0, 4 it is 14.
        Notes.type(x, 0, "1k2a304" + "4" + "\n" + "1k2a304" + "5" + "\n" + "1k2a314" + "4" + "\n");
        Due.answer("right", x.read(0, 0, 0, 0), 8);
        Due.answer("another last one", x.readings(0, 0, 9), 0);
        Due.answer("another first one", x.readings(0, 0, 18), 0);
        // 3, 3 * 5 give 18; 8, 3 * 6 more give 44; 4, 3 * 7 more give 69; 9 more gives 78.
        Notes.type(x, 1, "3586479" + "8" + "\n" + "3586479" + "7" + "\n" + "3586179" + "8" + "\n");
        Due.answer("rounds", x.read(1, 1, 0, 0), 8);
        Due.answer("another last one", x.readingsAnew(1, 1, 9), 0);
        Due.answer("another inside", x.readingsAnew(1, 1, 18), 0);
        NotationPress y = Notes.press(Notes.items(0, 0, 1, 0, 1, 1, 2, 2, 0, 2, 1, 0, 4, 0, 0, 0));
        Notes.type(y, 0, "1ba27\n" + "1ba25\n");
        Due.answer("behind both words", y.readings(0, 0, 0), 2);
        Due.answer("behind both words, anew", y.readingsAnew(0, 0, 0), 2);
        Due.answer("behind neither", y.readings(0, 0, 6), 0);
        Due.answer("behind neither, anew", y.readingsAnew(0, 0, 6), 0);
    }

    /** Wherever they end: the line end is no bound but that no item takes it. */
    private static void readingsOfTheWhole() {
        NotationPress x = Notes.press(Notes.items(1, 0, 2, 2, 2, 1, 'a', 0));
        Notes.type(x, 0, "aaaa\n");
        Due.answer("readings()", x.readings(0, 0, 0), 6);
        Due.answer("readingsAnew()", x.readingsAnew(0, 0, 0), 6);
        int[] ends = {3, 4, 3, 4, 3, 4};
        int[] first = {Notes.word("aa"), Notes.word("aa"), 1, 1, 0, 0};
        for (int i = 0; i < 6; i++) {
            Due.answer("read(" + i + ")", x.read(0, 0, 0, i), ends[i]);
            Notes.slots("read(" + i + ")", x, first[i], ends[i] - 3);
        }
        Due.answer("readings() further on", x.readings(0, 0, 1), 3);
        Due.answer("readings() with too few units", x.readings(0, 0, 2), 0);
    }

    /**
     * Three words with 3, 6 and 3 readings, and signs behind them: 1 + 3 + 18 items are begun for the words, and 54
     * for each sign.
     */
    private static NotationPress far(int signsAhead, int signsBehind) {
        NotationPress x = new NotationPress();
        for (int i = 0; i < signsAhead; i++) x.item(5, 'b', 0, 0);
        x.item(1, 0, 2, 2);
        x.item(1, 1, 5, 2);
        x.item(1, 2, 2, 2);
        for (int i = 0; i < signsBehind; i++) x.item(5, 'b', 0, 0);
        x.description();
        Notes.type(x, 0, "b".repeat(signsAhead) + "aaaaaaaaa" + "b".repeat(signsBehind) + "\n");
        return x;
    }

    private static void readingsTakeTooFar() {
        NotationPress x = far(0, 7);
        Due.answer("400 begun", x.readings(0, 0, 0), 54);
        Due.answer("400 begun, anew", x.readingsAnew(0, 0, 0), 54);
        NotationPress y = far(1, 7);
        Due.answer("401 begun", y.readings(0, 0, 0), -1);
        Due.answer("401 begun, anew", y.readingsAnew(0, 0, 0), -1);
        // The last sign of the last reading is what takes too far.
        Due.answer("the 53rd reading", y.read(0, 0, 0, 52), 17);
        Due.index("the 54th reading", () -> y.read(0, 0, 0, 53));
        NotationPress z = far(0, 8);
        Due.answer("454 begun", z.readings(0, 0, 0), -1);
        Due.answer("454 begun, anew", z.readingsAnew(0, 0, 0), -1);
        Due.answer("ways that lead nowhere count", far(0, 9).readings(0, 0, 0), -1);
        NotationPress w = far(0, 8);
        Notes.type(w, 1, "aaaaaaaaabbbbbbb!");
        Due.answer("no reading, but too far", w.readings(0, 1, 0), -1);
        Due.answer("no reading, but too far, anew", w.readingsAnew(0, 1, 0), -1);
        Due.index("no reading ahead of that", () -> w.read(0, 1, 0, 0));
    }

    /** The 392nd to the 400th item that is begun is a word with six readings; a sign ahead makes it one more item. */
    private static void readingsOfTheLastBegun() {
        for (int signs = 0; signs < 2; signs++) {
            NotationPress x = new NotationPress();
            for (int i = 0; i < signs; i++) x.item(5, 'b', 0, 0);
            int[][] items = Notes.items(1, 0, 2, 2, 1, 1, 2, 2, 2, 2, 'a', 0, 2, 3, 'a', 0, 5, 'b', 0, 0, 1, 4, 5, 2);
            for (int[] i : items) x.item(i[0], i[1], i[2], i[3]);
            x.description();
            Notes.type(x, 0, "b".repeat(signs) + "a".repeat(16) + "b" + "a".repeat(5) + "\n");
            Due.answer("readings()", x.readings(0, 0, 0), signs == 0 ? 54 : -1);
            Due.answer("readingsAnew()", x.readingsAnew(0, 0, 0), signs == 0 ? 54 : -1);
            // The last of the nine beginnings is what takes too far, so that its six readings are not found.
            Due.answer("the 48th reading", x.read(0, 0, 0, 47), 22 + signs);
            Due.answer("its last word", x.get(4, 0), 0);
            if (signs == 0) Due.answer("the 54th reading", x.read(0, 0, 0, 53), 22);
            else Due.index("the 49th reading", () -> x.read(0, 0, 0, 48));
            Due.answer("stream()", x.stream(0, 0), 0);
            Due.answer("step()", x.step(0), signs == 0 ? 1 : 0);
            Due.answer("progress()", x.progress(0), signs == 0 ? 11023 : 24);
        }
    }

    private static void readingsAtMost() {
        NotationPress x = Notes.press(Notes.items(1, 0, 5, 2, 1, 1, 5, 2, 1, 2, 2, 2), Notes.items(1, 0, 5, 2, 1, 1, 5, 2));
        Notes.type(x, 0, "aaaaaaaaaaaa\n");
        Due.answer("108 readings", x.readings(0, 0, 0), 99);
        Due.answer("108 readings anew", x.readingsAnew(0, 0, 0), 99);
        Due.answer("the last one", x.read(0, 0, 0, 107), 12);
        Notes.slots("the last one", x, 0, 0, 0);
        Due.answer("the one ahead of it", x.read(0, 0, 0, 106), 12);
        Notes.slots("the one ahead of it", x, 0, 0, 1);
        Due.index("one more", () -> x.read(0, 0, 0, 108));
        Due.answer("36 readings", x.readings(1, 0, 0), 36);
    }

    private static void readingsThrow() {
        NotationPress x = Notes.press(Notes.items(5, 'a', 0, 0));
        Notes.type(x, 0, "aa");
        int[][] wrong = {{-1, 0, 0}, {1, 0, 0}, {0, -1, 0}, {0, 2, 0}, {0, 0, -1}, {0, 0, 3}, {0, 1, 1}, {0, 0, NOTHING},
            {NOTHING, NOTHING, NOTHING}, {0, 0, Integer.MAX_VALUE}};
        for (int[] w : wrong) {
            Due.index("readings()", () -> x.readings(w[0], w[1], w[2]));
            Due.index("readingsAnew()", () -> x.readingsAnew(w[0], w[1], w[2]));
            Due.index("read()", () -> x.read(w[0], w[1], w[2], 0));
        }
        Due.answer("at the end", x.readings(0, 0, 2), 0);
        Due.answer("of an empty file", x.readingsAnew(0, 1, 0), 0);
    }

    /** Those of earlier items go ahead of those of later ones, also in the rounds of a loop. */
    private static void readInOrder() {
        NotationPress x = Notes.press(Notes.items(6, 3, 0, 0, 7, 3, 1, 0, 2, 0, 'a', 0, 1, 1, 1, 2));
        Notes.type(x, 0, "2aaaaa\n");
        int[][] due = {{0, 0, 1, 4}, {0, 0, 0, 4}, {0, 1, 1, 5}, {0, 1, 0, 5}, {0, 2, 1, 6}, {0, 2, 0, 6}, {1, 0, 1, 5},
            {1, 0, 0, 5}, {1, 1, 1, 6}, {1, 1, 0, 6}, {2, 0, 1, 6}, {2, 0, 0, 6}};
        int[] words = {0, Notes.word("a"), Notes.word("aa")};
        Due.answer("readings()", x.readings(0, 0, 0), due.length);
        Due.answer("readingsAnew()", x.readingsAnew(0, 0, 0), due.length);
        for (int i = 0; i < due.length; i++) {
            Due.answer("end of " + i, x.read(0, 0, 0, i), due[i][3]);
            Due.answer("round 0 of " + i, x.get(0, 0), words[due[i][0]]);
            Due.answer("round 1 of " + i, x.get(0, 1), words[due[i][1]]);
            Due.answer("round 2 of " + i, x.get(0, 2), NOTHING);
            Due.answer("word of " + i, x.get(1, 0), due[i][2]);
        }
    }

    private static void readFillsTheRecord() {
        NotationPress x = Notes.press(Notes.items(0, 2, 2, 0));
        Notes.type(x, 1, "x 7");
        for (int i = 0; i < 24; i++) x.set(i / 3, i % 3, 100 + i);
        Due.answer("read()", x.read(0, 1, 1, 0), 3);
        for (int i = 0; i < 24; i++) Due.answer("cell " + i, x.get(i / 3, i % 3), i == 6 ? 7 : NOTHING);
    }

    private static void readThrows() {
        NotationPress x = Notes.press(Notes.items(0, 2, 2, 0));
        Notes.type(x, 1, "x 7");
        x.set(1, 1, 5);
        for (int index : new int[] {-1, 1, NOTHING, Integer.MAX_VALUE}) {
            Due.index("read() of " + index, () -> x.read(0, 1, 1, index));
        }
        Due.index("no reading", () -> x.read(0, 1, 0, 0));
        Due.answer("nothing changes", x.get(1, 1), 5);
    }
}
