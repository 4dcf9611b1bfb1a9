/** Promises 33 to 35: compare, find, findAnew. */
public final class FindingTest {
    private static final int NOTHING = NotationPress.NOTHING;

    public static void main(String[] args) {
        comparesKeys();
        comparesByTheLastRow();
        comparesRounds();
        comparesWithoutValues();
        comparesManyKeys();
        compareThrows();
        finds();
        findsAsRowsAreRead();
        findsAlikeInManyRows();
        findsTheSameInAllRows();
        findThrows();
        Due.end();
    }

    /** Lines with blanks have a number in slot 0, a bit in slot 2, and with it one in slot 1; others have a loop. */
    private static NotationPress press(String zero, String one) {
        NotationPress x = Notes.press(Notes.items(0, 0, 1, 0, 5, ' ', 0, 0, 3, 2, 1, 0, 8, 2, 1, 1, 0, 1, 1, 0),
            Notes.items(0, 0, 1, 0, 6, 3, 0, 0, 7, 3, 1, 0, 0, 1, 1, 0));
        read(x, 0, zero);
        read(x, 1, one);
        return x;
    }

    private static void read(NotationPress x, int file, String text) {
        Notes.type(x, file, text);
        x.stream(file, text.indexOf(' ') < 0 ? 1 : 0);
        while (x.step(file) == NotationPress.READ) continue;
    }

    private static void comparesKeys() {
        NotationPress x = press("1 x5\n2 x6\n3 x7\n4 x8\n", "2 x6\n3 x9\n5 x5\n6 x5\n7 -\n");
        Due.answer("compare(0)", x.compare(0), 30000 + 200 + 1);
        Due.answer("compare(1): 5, 6, 7, 8 and 6, 9, 5", x.compare(1), 10000 + 200 + 1);
        Due.answer("compare(2): x, and x, -", x.compare(2), 10000 + 1);
        Due.answer("compare(7)", x.compare(7), 0);
        NotationPress y = press("", "2 x6\n");
        Due.answer("with an empty table", y.compare(0), 10000);
        NotationPress z = press("2 x6\n", "");
        Due.answer("an empty table", z.compare(0), 100);
        Due.answer("both", press("", "").compare(0), 0);
        Due.answer("both alike", press("1 x5\n2 -\n", "2 -\n1 x5\n").compare(0), 0);
    }

    private static void comparesByTheLastRow() {
        NotationPress x = press("1 x5\n1 x6\n2 x3\n", "1 x6\n2 x3\n2 x4\n");
        Due.answer("the last row of 2 differs", x.compare(0), 1);
        NotationPress y = press("1 x6\n1 x5\n", "1 x5\n1 x5\n1 x5\n");
        Due.answer("each key once", y.compare(0), 0);
        NotationPress z = press("1 x6\n1 x5\n1 x6\n", "3 x5\n3 x7\n");
        Due.answer("each key once", z.compare(0), 10100);
    }

    private static void comparesRounds() {
        NotationPress x = press("10\n215\n3256\n43567\n", "10\n216\n3256\n43568\n");
        Due.answer("rounds", x.compare(0), 2);
        NotationPress y = press("10\n215\n3256\n43567\n", "3255\n4256\n10\n215\n");
        Due.answer("rounds that are not there", y.compare(0), 2);
        Due.answer("by a slot of the loop, round 0: but 5", y.compare(1), 1);
    }

    private static void comparesWithoutValues() {
        NotationPress x = press("1 x5\n2 -\n3 -\n", "1 -\n2 x5\n3 -\n");
        Due.answer("another value, or none", x.compare(0), 2);
        Due.answer("rows without the key", x.compare(1), 1);
        NotationPress y = press("1 x5\n2 -\n", "");
        Due.answer("rows without the key do not count", y.compare(1), 100);
    }

    private static void comparesManyKeys() {
        NotationPress x = Notes.press(Notes.items(0, 0, 2, 1));
        for (int i = 0; i < 24; i++) {
            x.set(0, 0, i);
            x.print(0, 0);
            x.set(0, 0, 50 + i);
            x.print(0, 1);
        }
        x.stream(0, 0);
        x.stream(1, 0);
        for (int i = 0; i < 48; i++) x.step(i % 2);
        Due.answer("24 keys each", x.compare(0), 242400);
    }

    private static void compareThrows() {
        NotationPress x = press("1 x5\n", "1 x5\n");
        for (int slot : new int[] {-1, 8, NOTHING, Integer.MAX_VALUE}) Due.index("compare()", () -> x.compare(slot));
    }

    private static void find(NotationPress x, int file, int slot, int value, int place, int due) {
        String call = "(" + file + ", " + slot + ", " + value + ", " + place + ")";
        Due.answer("find" + call, x.find(file, slot, value, place), due);
        Due.answer("findAnew" + call, x.findAnew(file, slot, value, place), due);
    }

    private static void finds() {
        NotationPress x = press("1 x5\n2 -\n1 x6\n1 x5\n", "0 x0\n");
        find(x, 0, 0, 1, 0, 0);
        find(x, 0, 0, 1, 1, 2);
        find(x, 0, 0, 1, 2, 3);
        find(x, 0, 0, 1, 3, -1);
        find(x, 0, 0, 1, Integer.MAX_VALUE, -1);
        find(x, 0, 0, 2, 0, 1);
        find(x, 0, 1, 5, 0, 0);
        find(x, 0, 1, 5, 1, 3);
        find(x, 0, 1, 5, 2, -1);
        find(x, 0, 2, 0, 0, 1);
        find(x, 0, 0, 3, 0, -1);
        find(x, 0, 0, 33, 0, -1);
        find(x, 0, 0, -31, 0, -1);
        find(x, 0, 0, -1, 0, -1);
        find(x, 0, 0, Integer.MAX_VALUE, 0, -1);
        find(x, 0, 7, 0, 0, -1);
        for (int slot = 0; slot < 8; slot++) find(x, 0, slot, NOTHING, 0, -1);
        find(x, 1, 0, 0, 0, 0);
        find(x, 1, 1, 0, 0, 0);
        find(x, 1, 1, 5, 0, -1);
        NotationPress y = press("", "3256\n");
        find(y, 1, 1, 5, 0, 0);
        find(y, 1, 1, 6, 0, -1);
    }

    private static void findsAsRowsAreRead() {
        NotationPress x = press("1 x5\n", "");
        find(x, 0, 1, 5, 1, -1);
        Notes.type(x, 0, "z\n3 x5\n");
        find(x, 0, 1, 5, 1, -1);
        x.step(0);
        find(x, 0, 1, 5, 1, -1);
        x.step(0);
        find(x, 0, 1, 5, 1, 1);
        find(x, 0, 0, 3, 0, 1);
        x.stream(0, 0);
        find(x, 0, 1, 5, 0, -1);
        find(x, 0, 0, 3, 0, -1);
        x.step(0);
        find(x, 0, 1, 5, 0, 0);
        find(x, 0, 1, 5, 1, -1);
    }

    /** Words that have the same lowest bits, and rows that are many. */
    private static void findsAlikeInManyRows() {
        NotationPress x = Notes.press(Notes.items(1, 4, 3, 1));
        String[] words = {"a", "aa", "ab", "aaa", "b"};
        for (int i = 0; i < 24; i++) {
            x.set(4, 0, Notes.word(words[i * 7 % 5]));
            x.print(0, 0);
        }
        x.stream(0, 0);
        for (int i = 0; i < 24; i++) x.step(0);
        for (int w = 0; w < 5; w++) {
            int place = 0;
            for (int row = 0; row < 24; row++) {
                if (row * 7 % 5 != w) continue;
                find(x, 0, 4, Notes.word(words[w]), place, row);
                place++;
            }
            find(x, 0, 4, Notes.word(words[w]), place, -1);
        }
    }

    private static void findsTheSameInAllRows() {
        NotationPress x = Notes.press(Notes.items(6, 0, 0, 0));
        for (int i = 0; i < 12; i++) Notes.type(x, 1, "2\n2\n");
        x.stream(1, 0);
        find(x, 1, 0, 2, 0, -1);
        for (int i = 0; i < 24; i++) {
            x.step(1);
            find(x, 1, 0, 2, i, i);
            find(x, 1, 0, 2, i + 1, -1);
        }
        find(x, 1, 0, 2, Integer.MAX_VALUE, -1);
        find(x, 0, 0, 2, 0, -1);
        Due.answer("one key", x.compare(0), 10000);
    }

    private static void findThrows() {
        NotationPress x = press("1 x5\n", "1 x5\n");
        for (int no : new int[] {-1, 8, NOTHING}) {
            Due.index("find(), file", () -> x.find(no, 0, 1, 0));
            Due.index("find(), slot", () -> x.find(0, no, 1, 0));
            Due.index("findAnew(), file", () -> x.findAnew(no, 0, 1, 0));
            Due.index("findAnew(), slot", () -> x.findAnew(0, no, 1, 0));
        }
        for (int place : new int[] {-1, NOTHING}) {
            for (int value : new int[] {1, 7, NOTHING}) {
                Due.index("find(), place", () -> x.find(0, 0, value, place));
                Due.index("findAnew(), place", () -> x.findAnew(0, 0, value, place));
            }
        }
        Due.index("find() in file 2", () -> x.find(2, 0, 1, 0));
        Due.index("findAnew() in file 2", () -> x.findAnew(2, 0, 1, 0));
    }
}
