/** Presses in which much stands already, made by the same calls each time; some 150 calls at most. */
final class Scenes {
    private static final int NUMBER = 0, WORD = 1, OPEN = 2, BITS = 3, CHECK = 4;
    private static final int SIGN = 5, COUNT = 6, LOOP = 7;

    interface Scene {
        NotationPress make();
    }

    private Scenes() {
    }

    /** Nothing stands. */
    static NotationPress fresh() {
        return new NotationPress();
    }

    /**
     * Some of everything. Description 0 has a constraint, 1 can never be sampled, 3 cannot print the record; file 0 is
     * open, with 2 rows and a line begun, file 1 is closed and read to its end. Upgrade 1 has 56 parts, 3 a quotient;
     * the slots 0 and 3 of the draft of an upgrade have steps, and the draft has three items.
     */
    static NotationPress some() {
        NotationPress x = new NotationPress();
        describe(x, NUMBER, 0, 2, 0, WORD, 1, 3, 2, COUNT, 2, 0, 0, LOOP, 2, 1, 0, BITS, 3, 2, 0);
        describe(x, NUMBER, 4, 1, 0, OPEN, 5, '!', 0);
        describe(x, WORD, 0, 3, 2, OPEN, 1, 'a', 0);
        describe(x, BITS, 7, 2, 0);
        x.constrain(0, 3, 0, 2, 0, 7);
        x.constrain(1, 1, 4, 5, 0, 8);
        x.constrain(1, 1, 4, 6, 0, 9);
        Notes.type(x, 0, " 4aba2x--x\n 5abc0\n 6aaa1xx\n 8b");
        Notes.type(x, 1, "12bbb0\n 4abc0\n\n 6aba2x--x");
        x.close(1);
        for (int file = 0; file < 2; file++) {
            x.stream(file, 0);
            for (int i = 0; i < 5; i++) x.step(file);
            x.column(file, file + 1, 0, 2);
        }
        steps(x, 4, 0, 0, 1, 4, 1, 1, 0, 4, 2, 2, 3, 4, 3, 3, 2, 4, 4, 4, 5, 4, 5, 5, 4, 4, 6, 6, 7, 4, 7, 7, 6);
        x.upgrade();
        x.compose(0, 0);
        steps(x, 3, 0, 0, 3, 2, 1, 0, 5, 1, 2, -8, 0);
        x.upgrade();
        x.reverse(2);
        steps(x, 0, 0, 3, 0, 2, 3, 0, -5);
        items(x, NUMBER, 0, 2, 1, SIGN, '-', 0, 0, CHECK, 0, 0, 0);
        fill(x);
        return x;
    }

    /** The draft has a loop without its items. */
    static NotationPress halfADraft() {
        NotationPress x = some();
        x.dropItems();
        items(x, COUNT, 0, 0, 0, LOOP, 0, 2, 0, SIGN, 'A', 0, 0);
        return x;
    }

    /**
     * As much as there can be: 6 descriptions, 8 constraints of the first one, a draft of 14 items, 300 units in file 0
     * and 299 in file 1, both open, 24 rows of file 0 with a line behind them, 6 columns and 8 upgrades.
     */
    static NotationPress full() {
        NotationPress x = new NotationPress();
        describe(x, BITS, 0, 1, 0);
        describe(x, NUMBER, 0, 8, 1, NUMBER, 1, 8, 1, NUMBER, 2, 8, 1, NUMBER, 3, 8, 1, NUMBER, 4, 8, 1, NUMBER, 5, 8, 1,
            NUMBER, 6, 8, 1, NUMBER, 7, 4, 1);
        for (int i = 2; i < 6; i++) describe(x, SIGN, 'A' + i, 0, 0);
        for (int i = 1; i <= 8; i++) x.constrain(0, 0, 0, 7, 0, i);
        for (int i = 0; i < 14; i++) x.item(SIGN, 'a' + i, 0, 0);
        for (int i = 0; i < 12; i++) x.type(0, Notes.four(i % 3 == 0 ? "x\n-\n" : "x\nx\n"));
        x.type(0, Notes.four("-\n"));
        fill(x);
        for (int i = 0; i < 4; i++) x.print(1, 0);
        Notes.type(x, 0, "abcdef");
        for (int i = 0; i < 4; i++) x.print(1, 1);
        for (int i = 0; i < 27; i++) x.print(2, 1);
        x.type(1, 'z');
        x.stream(0, 0);
        for (int i = 0; i < 24; i++) x.step(0);
        for (int i = 0; i < 6; i++) x.column(0, i % 4, 0, 1 + i % 5);
        for (int i = 0; i < 8; i++) {
            steps(x, 2, i, i, i);
            x.upgrade();
        }
        steps(x, 1, 2, 3, 0);
        return x;
    }

    /** As much as there can be, with the files closed and file 0 read to its end. */
    static NotationPress fullAndClosed() {
        NotationPress x = full();
        x.close(0);
        x.close(1);
        x.stream(1, 1);
        x.step(1);
        return x;
    }

    private static void describe(NotationPress x, int... fours) {
        items(x, fours);
        x.description();
    }

    private static void items(NotationPress x, int... fours) {
        for (int i = 0; i < fours.length; i += 4) x.item(fours[i], fours[i + 1], fours[i + 2], fours[i + 3]);
    }

    private static void steps(NotationPress x, int... fours) {
        for (int i = 0; i < fours.length; i += 4) x.change(fours[i], fours[i + 1], fours[i + 2], fours[i + 3]);
    }

    private static void fill(NotationPress x) {
        for (int slot = 0; slot < 8; slot++) x.set(slot, 0, slot);
        x.set(3, 1, 1);
        x.set(6, 2, -1);
    }
}
