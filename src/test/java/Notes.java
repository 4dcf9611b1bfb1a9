/** Short ways to give a press its descriptions and texts; each press is a new one. */
final class Notes {
    static final int NUMBER = 0, WORD = 1, OPEN = 2, BITS = 3, CHECK = 4;
    static final int SIGN = 5, COUNT = 6, LOOP = 7, CASE = 8, BACK = 9;
    static final int NOTHING = NotationPress.NOTHING;
    static final int FACE = 27;

    private Notes() {
    }

    /** A press with one description for each row of items, four numbers an item. */
    static NotationPress press(int[][]... descriptions) {
        NotationPress press = new NotationPress();
        for (int i = 0; i < descriptions.length; i++) {
            Due.answer("description()", describe(press, descriptions[i]), i);
        }
        return press;
    }

    static int describe(NotationPress press, int[]... items) {
        put(press, items);
        return press.description();
    }

    static void put(NotationPress press, int[]... items) {
        for (int i = 0; i < items.length; i++) {
            Due.answer("item()", press.item(items[i][0], items[i][1], items[i][2], items[i][3]), i + 1);
        }
    }

    static int[][] items(int... fours) {
        int[][] items = new int[fours.length / 4][];
        for (int i = 0; i < items.length; i++) {
            items[i] = new int[] {fours[4 * i], fours[4 * i + 1], fours[4 * i + 2], fours[4 * i + 3]};
        }
        return items;
    }

    static void type(NotationPress press, int file, String text) {
        for (int i = 0; i < text.length(); i += 4) press.type(file, four(text.substring(i, Math.min(i + 4, text.length()))));
    }

    static int four(String characters) {
        int four = 0;
        for (int i = 0; i < characters.length(); i++) four |= characters.charAt(i) << (8 * i);
        return four;
    }

    /** The number that tells a word; "@" stands for the face. */
    static int word(String letters) {
        int word = 0;
        for (int i = 0; i < letters.length(); i++) {
            int letter = letters.charAt(i) == '@' ? FACE : letters.charAt(i) - 'a' + 1;
            word |= letter << (5 * i);
        }
        return word;
    }

    static String text(NotationPress press, int file) {
        StringBuilder text = new StringBuilder();
        for (int i = 0; !Due.told(charAt(press, file, i)).startsWith("throws"); i++) text.append(press.unit(file, i));
        return text.toString();
    }

    private static Due.Call charAt(NotationPress press, int file, int place) {
        return () -> press.unit(file, place);
    }

    /** What the working record has in a slot, round 0, and so on. */
    static void slots(String call, NotationPress press, int... due) {
        for (int i = 0; i < due.length; i++) Due.answer(call + ", slot " + i, press.get(i, 0), due[i]);
    }

    static void isEmpty(String call, NotationPress press) {
        for (int i = 0; i < 24; i++) Due.answer(call + ", cell " + i, press.get(i / 3, i % 3), NOTHING);
    }

    /** Prints into the file 0, and looks at what came of it: it begins with the file, or behind a line end. */
    static void prints(String due, NotationPress press, int description) {
        int length = press.print(description, 0);
        int start = Math.max(0, length - due.length() - 1);
        StringBuilder text = new StringBuilder();
        for (int i = start; i < length; i++) text.append(press.unit(0, i));
        Due.text("print()", text.toString(), due + "\n");
        if (start > 0) Due.answer("ahead of " + due, press.unit(0, start - 1), 10);
    }
}
