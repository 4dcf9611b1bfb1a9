/**
 * The sentences under "Terms" that name a bound: the last value that is taken, and the first one that is not.
 * Where a promise names a bound of its own, the test of that promise looks at it.
 */
public final class BoundariesTest {
    private static final int NOTHING = NotationPress.NOTHING;
    private static final int NUMBER = 0, WORD = 1, OPEN = 2, BITS = 3, CHECK = 4;
    private static final int SIGN = 5, COUNT = 6, LOOP = 7, CASE = 8, BACK = 9;
    private static final String FACE = "\uD83D\uDE00";

    public static void main(String[] args) {
        letters();
        lettersInAWord();
        numbersByWidth();
        numbersWithMarksByWidth();
        wordsByWidth();
        openWordsHaveNoWidth();
        bitsByTheirNumber();
        signs();
        signsBehindAWord();
        counts();
        checkDigitsByTheirPlace();
        loopsByItemsAndRounds();
        casesByTheirValue();
        placesOfTwoDigits();
        noPlaceAtAll();
        itemsThatTheTextCutsShort();
        sixtyUnitsOfPairs();
        ninetyNineReadings();
        constraintsByTheirNumbers();
        sumsBeyondInts();
        charactersInEachPlace();
        draftsThatAreNone();
        Due.end();
    }

    /** What a description of one item prints of a value of the slot 0 (null: nothing); if it is sure, it reads that. */
    private static void prints(String call, int[] item, int value, String due) {
        NotationPress x = Notes.press(new int[][] {item});
        x.set(0, 0, value);
        if (due == null) {
            Due.state(call, () -> x.print(0, 0));
            Due.index(call + ", the file", () -> x.unit(0, 0));
            return;
        }
        Due.answer(call, x.print(0, 0), due.length() + 1);
        Due.text(call, Notes.text(x, 0), due + "\n");
        if (x.sure(0) >= 0) return;
        x.set(0, 0, NOTHING);
        Due.answer(call + ", the place behind it", x.read(0, 0, 0, 0), due.length());
        Due.answer(call + ", read again", x.get(0, 0), item[0] == SIGN ? NOTHING : value);
    }

    private static String letter(int number) {
        return number == Notes.FACE ? FACE : String.valueOf((char) ('a' + number - 1));
    }

    /** The letters are 1 to 26, "a" to "z", and 27, the face; a word may have none. */
    private static void letters() {
        prints("no letter", new int[] {WORD, 0, 2, 1}, 0, "..");
        for (int n = 1; n <= 27; n++) {
            String fills = n == Notes.FACE ? "" : ".";
            prints("letter " + n, new int[] {WORD, 0, 2, 1}, n, letter(n) + fills);
            prints("letter " + n, new int[] {OPEN, 0, '!', 0}, n, letter(n) + "!");
        }
        for (int n = 28; n <= 31; n++) {
            prints("letter " + n, new int[] {WORD, 0, 2, 1}, n, null);
            prints("letter " + n + " behind", new int[] {WORD, 0, 9, 1}, 1 | n << 5, null);
            prints("letter " + n + " as the fifth", new int[] {OPEN, 0, '!', 0}, Notes.word("aaaa") | n << 20, null);
        }
    }

    /** Up to five letters, and none behind the last one. */
    private static void lettersInAWord() {
        for (String word : new String[] {"", "a", "ab", "abc", "abcd", "abcde", "zzzzz"}) {
            prints(word, new int[] {OPEN, 0, '.', 0}, Notes.word(word), word + ".");
            prints(word, new int[] {WORD, 0, 6, 1}, Notes.word(word), word + ".".repeat(6 - word.length()));
            prints(word + " and a bit behind", new int[] {OPEN, 0, '.', 0}, Notes.word(word) | 1 << 25, null);
            prints(word + " below 0", new int[] {OPEN, 0, '.', 0}, Notes.word(word) | 1 << 31, null);
        }
        for (int gap = 0; gap < 4; gap++) {
            prints("a gap at " + gap, new int[] {OPEN, 0, '.', 0}, Notes.word("abcde") & ~(31 << 5 * gap), null);
        }
        // Six letters ahead of the sign are no word, five are.
        NotationPress x = Notes.press(Notes.items(OPEN, 0, '!', 0), Notes.items(WORD, 0, 6, 1));
        Notes.type(x, 0, "abcdef!");
        Due.answer("six letters", x.readings(0, 0, 0), 0);
        Due.answer("six letters", x.readings(1, 0, 0), 0);
        Due.answer("five letters", x.read(0, 0, 1, 0), 7);
    }

    private static int power(int base, int times) {
        int result = 1;
        for (int i = 0; i < times; i++) result *= base;
        return result;
    }

    private static void numbersByWidth() {
        for (int width = 1; width <= 8; width++) {
            int first = power(10, width);
            for (int form = 0; form < 3; form++) {
                int[] item = {NUMBER, 0, width, form};
                String fills = String.valueOf(" 0*".charAt(form)).repeat(width - 1);
                prints("0", item, 0, fills + "0");
                prints("1", item, 1, fills + "1");
                prints("the most of " + width, item, first - 1, "9".repeat(width));
                prints("one more than of " + width, item, first, null);
                prints("-1", item, -1, null);
                prints("no value", item, NOTHING, null);
            }
        }
    }

    /** So many digits fit into widths of 1 to 8 with their marks; those that need no mark fit as without. */
    private static void numbersWithMarksByWidth() {
        int[] digits = {1, 2, 3, 3, 4, 5, 6, 6};
        for (int width = 1; width <= 8; width++) {
            for (int form : new int[] {3, 5, 6, 8}) {
                int[] item = {NUMBER, 0, width, form};
                String mark = form < 6 ? "," : ".";
                String fill = form % 3 == 0 ? " " : "*";
                int count = digits[width - 1];
                String nines = count > 3 ? "9".repeat(count - 3) + mark + "999" : "9".repeat(count);
                prints("the most of " + width, item, power(10, count) - 1, fill.repeat(width - nines.length()) + nines);
                prints("one more than of " + width, item, power(10, count), null);
                if (width >= 3) prints("no mark yet", item, 100, fill.repeat(width - 3) + "100");
                if (width >= 5) prints("the first mark", item, 1000, fill.repeat(width - 5) + "1" + mark + "000");
            }
        }
    }

    private static void wordsByWidth() {
        for (int width = 1; width <= 9; width++) {
            for (int form = 0; form < 3; form++) {
                int[] item = {WORD, 0, width, form};
                String fill = String.valueOf(" .a".charAt(form));
                for (int letters = 0; letters <= 5; letters++) {
                    String word = "bcdef".substring(0, letters);
                    String due = letters > width ? null : word + fill.repeat(width - letters);
                    prints(word + " in " + width, item, Notes.word(word), due);
                }
                for (int faces = 1; faces <= 5; faces++) {
                    String due = 2 * faces > width ? null : FACE.repeat(faces) + fill.repeat(width - 2 * faces);
                    prints(faces + " faces in " + width, item, Notes.word("@@@@@".substring(0, faces)), due);
                }
            }
        }
    }

    private static void openWordsHaveNoWidth() {
        prints("five faces", new int[] {OPEN, 0, 33, 0}, Notes.word("@@@@@"), FACE.repeat(5) + "!");
        prints("five letters", new int[] {OPEN, 0, 126, 0}, Notes.word("zzzzz"), "zzzzz~");
        prints("no letter", new int[] {OPEN, 0, 33, 0}, 0, "!");
    }

    private static void bitsByTheirNumber() {
        for (int bits = 1; bits <= 8; bits++) {
            int[] item = {BITS, 0, bits, 0};
            prints("none of " + bits, item, 0, "-".repeat(bits));
            prints("the lowest of " + bits, item, 1, "x" + "-".repeat(bits - 1));
            prints("the highest of " + bits, item, 1 << (bits - 1), "-".repeat(bits - 1) + "x");
            prints("all of " + bits, item, (1 << bits) - 1, "x".repeat(bits));
            prints("one more than " + bits + " bits", item, 1 << bits, null);
            prints("-1 in " + bits + " bits", item, -1, null);
        }
    }

    private static void signs() {
        NotationPress x = new NotationPress();
        for (int sign = 32; sign <= 126; sign++) prints("sign " + sign, new int[] {SIGN, sign, 0, 0}, 0, "" + (char) sign);
        for (int sign : new int[] {31, 127}) Due.argument("sign " + sign, () -> x.item(SIGN, sign, 0, 0));
    }

    private static void signsBehindAWord() {
        NotationPress x = new NotationPress();
        for (int sign = 33; sign <= 126; sign++) {
            prints("behind " + sign, new int[] {OPEN, 0, sign, 0}, Notes.word("b"), "b" + (char) sign);
            NotationPress y = Notes.press(Notes.items(OPEN, 0, sign, 0));
            Due.answer("sure with " + sign, y.sure(0), sign >= 'a' && sign <= 'z' ? 0 : -1);
        }
        for (int sign : new int[] {32, 127}) Due.argument("behind " + sign, () -> x.item(OPEN, 0, sign, 0));
    }

    private static void counts() {
        for (int count = 0; count <= 3; count++) prints("count " + count, new int[] {COUNT, 0, 0, 0}, count, "" + count);
        for (int count : new int[] {-1, 4, 10, NOTHING, Integer.MAX_VALUE}) {
            prints("count " + count, new int[] {COUNT, 0, 0, 0}, count, null);
        }
    }

    /** The first digit, the third and so on once, the others three times: by digits that come one by one. */
    private static void checkDigitsByTheirPlace() {
        NotationPress x = Notes.press(Notes.items(CHECK, 0, 0, 0),
            Notes.items(NUMBER, 0, 1, 0, CHECK, 0, 0, 0),
            Notes.items(NUMBER, 0, 2, 1, CHECK, 0, 0, 0),
            Notes.items(NUMBER, 0, 3, 1, CHECK, 0, 0, 0),
            Notes.items(NUMBER, 0, 2, 0, SIGN, '-', 0, 0, CHECK, 0, 0, 0),
            Notes.items(NUMBER, 0, 5, 3, CHECK, 0, 0, 0));
        x.set(0, 0, 4);
        Notes.prints("0", x, 0);
        Notes.prints("4" + "4", x, 1);
        Notes.prints("04" + "2", x, 2);
        Notes.prints("004" + "4", x, 3);
        // Fills, marks and signs are no digits.
        Notes.prints(" 4-" + "4", x, 4);
        x.set(0, 0, 4000);
        Notes.prints("4,000" + "4", x, 5);
        x.set(0, 0, 9);
        Notes.prints("09" + "7", x, 2);
        x.set(0, 0, 999);
        Notes.prints("999" + "5", x, 3);
    }

    private static void loopsByItemsAndRounds() {
        for (int items = 1; items <= 3; items++) {
            NotationPress x = new NotationPress();
            x.item(COUNT, 0, 0, 0);
            x.item(LOOP, 0, items, 0);
            for (int i = 0; i < items; i++) x.item(SIGN, 'A' + i, 0, 0);
            x.item(SIGN, 'Z', 0, 0);
            Due.answer("description()", x.description(), 0);
            for (int rounds = 0; rounds <= 3; rounds++) {
                x.set(0, 0, rounds);
                Notes.prints(rounds + "ABC".substring(0, items).repeat(rounds) + "Z", x, 0);
            }
            x.set(0, 0, 4);
            Due.state("4 rounds", () -> x.print(0, 0));
        }
        NotationPress y = new NotationPress();
        Due.argument("no items", () -> y.item(LOOP, 0, 0, 0));
        Due.argument("4 items", () -> y.item(LOOP, 0, 4, 0));
        loopsWithoutAValue();
    }

    /** The count is in a case that is not taken: the loop has no value, whatever the working record has. */
    private static void loopsWithoutAValue() {
        NotationPress x = Notes.press(Notes.items(BITS, 1, 1, 0, CASE, 1, 1, 1, COUNT, 0, 0, 0, LOOP, 0, 1, 0,
            NUMBER, 2, 1, 0, CASE, 0, 1, 2, SIGN, 'T', 0, 0));
        x.set(0, 0, 2);
        x.set(1, 0, 0);
        Notes.prints("-", x, 0);
        Due.answer("read()", x.read(0, 0, 0, 0), 1);
        Due.answer("nor does the reading", x.get(0, 0), NOTHING);
        x.set(0, 0, 2);
        x.set(1, 0, 1);
        x.set(2, 0, 8);
        Due.state("the second round has no value", () -> x.print(0, 0));
        x.set(2, 1, 9);
        Notes.prints("x2" + "89" + "T", x, 0);
    }

    private static void casesByTheirValue() {
        for (int value : new int[] {0, 1, 9, 10, 98, 99}) {
            NotationPress x = Notes.press(Notes.items(NUMBER, 0, 3, 1, CASE, 0, 1, value, SIGN, '!', 0, 0));
            for (int told = value - 1; told <= value + 1; told++) {
                if (told < 0) continue;
                x.set(0, 0, told);
                Notes.prints(String.format("%03d", told) + (told == value ? "!" : ""), x, 0);
            }
        }
        NotationPress y = Notes.press(Notes.items(BITS, 0, 7, 0, CASE, 0, 1, 99, SIGN, '!', 0, 0),
            Notes.items(COUNT, 0, 0, 0, CASE, 0, 1, 3, SIGN, '!', 0, 0, CASE, 0, 1, 4, SIGN, '?', 0, 0));
        y.set(0, 0, 99);
        Notes.prints("xx---xx!", y, 0);
        y.set(0, 0, 98);
        Notes.prints("-x---xx", y, 0);
        y.set(0, 0, 3);
        Notes.prints("3!", y, 1);
        y.set(0, 0, 2);
        Notes.prints("2", y, 1);
        casesByTheirItems();
    }

    private static void casesByTheirItems() {
        for (int items = 1; items <= 3; items++) {
            NotationPress x = new NotationPress();
            x.item(BITS, 0, 1, 0);
            x.item(CASE, 0, items, 1);
            for (int i = 0; i < 4; i++) x.item(SIGN, 'A' + i, 0, 0);
            Due.answer("description()", x.description(), 0);
            x.set(0, 0, 1);
            Notes.prints("xABCD", x, 0);
            x.set(0, 0, 0);
            Notes.prints("-" + "ABCD".substring(items), x, 0);
        }
        NotationPress y = new NotationPress();
        Due.argument("no items", () -> y.item(CASE, 0, 0, 0));
        Due.argument("4 items", () -> y.item(CASE, 0, 4, 0));
        Due.argument("the value -1", () -> y.item(CASE, 0, 1, -1));
        Due.argument("the value 100", () -> y.item(CASE, 0, 1, 100));
    }

    /**
     * An item of one unit, and its place behind it: at 57 the record has 60 units, at 58 it would have 61. So no
     * place comes near 100.
     */
    private static void placesOfTwoDigits() {
        for (int place = 0; place <= 58; place++) {
            NotationPress x = new NotationPress();
            int ahead = place;
            for (int slot = 0; slot < 7 && ahead > 0; slot++) {
                int width = Math.min(8, ahead);
                x.item(NUMBER, slot, width, 1);
                x.set(slot, 0, 0);
                ahead -= width;
            }
            for (; ahead > 0; ahead--) x.item(SIGN, '0', 0, 0);
            x.item(NUMBER, 7, 1, 0);
            x.item(BACK, 7, 0, 0);
            x.description();
            x.set(7, 0, 1);
            String due = "0".repeat(place) + "1" + String.format("%02d", place);
            if (place < 58) Due.answer("place " + place, x.print(0, 0), place + 4);
            else Due.state("place " + place, () -> x.print(0, 0));
            if (place < 58) Due.text("place " + place, Notes.text(x, 0), due + "\n");
            Notes.type(x, 1, due);
            Due.answer("read again " + place, x.readings(0, 1, 0), place < 58 ? 1 : 0);
            Due.answer("read again " + place, x.readingsAnew(0, 1, 0), place < 58 ? 1 : 0);
        }
    }

    /** Of a slot that was not printed there is no place, so that nothing can be read for it: not "00", nor "0/". */
    private static void noPlaceAtAll() {
        NotationPress x = Notes.press(Notes.items(BACK, 7, 0, 0),
            Notes.items(BITS, 0, 1, 0, CASE, 0, 1, 1, NUMBER, 1, 1, 0, BACK, 1, 0, 0),
            Notes.items(BACK, 0, 0, 0, NUMBER, 0, 1, 0),
            Notes.items(COUNT, 0, 0, 0, LOOP, 0, 1, 0, NUMBER, 1, 1, 0, BACK, 1, 0, 0),
            Notes.items(COUNT, 0, 0, 0, LOOP, 0, 2, 0, BACK, 1, 0, 0, NUMBER, 1, 1, 0));
        String[] none = {"00", "0/", "/0", "//", "-1", "/9", "99"};
        for (String text : none) {
            Notes.type(x, 0, text + "\n-" + text + "\n" + text + "1\n0" + text + "\n1" + text + "7\n");
        }
        for (int i = 0; i < none.length; i++) {
            int[] places = {0, 3, 7, 11, 15};
            for (int d = 0; d < 5; d++) {
                int at = 20 * i + places[d];
                int description = d;
                Due.answer("readings() of " + none[i], x.readings(d, 0, at), 0);
                Due.answer("readingsAnew() of " + none[i], x.readingsAnew(d, 0, at), 0);
                Due.index("read() of " + none[i], () -> x.read(description, 0, at, 0));
            }
        }
        Notes.type(x, 1, "x501\n" + "1501\n");
        Due.answer("in the case", x.read(1, 1, 0, 0), 4);
        Due.answer("in the loop", x.read(3, 1, 5, 0), 9);
    }

    /** Of each kind: one unit less than it takes is no reading, at the end of the text and ahead of a line end. */
    private static void itemsThatTheTextCutsShort() {
        int[][] items = {{NUMBER, 0, 8, 0}, {NUMBER, 0, 4, 1}, {NUMBER, 0, 5, 3}, {WORD, 0, 9, 0}, {WORD, 0, 3, 2},
            {OPEN, 0, '!', 0}, {OPEN, 0, 'b', 0}, {BITS, 0, 8, 0}, {CHECK, 0, 0, 0}, {SIGN, '~', 0, 0}, {COUNT, 0, 0, 0}};
        String[] texts = {"      12", "0012", "1,234", "ab       ", "aba", "cdefg!", "b", "x-x-x-x-", "0", "~", "3"};
        for (int i = 0; i < items.length; i++) {
            NotationPress x = Notes.press(new int[][] {items[i]});
            String cut = texts[i].substring(0, texts[i].length() - 1);
            Notes.type(x, 0, cut + "\n" + cut);
            for (int place : new int[] {0, cut.length() + 1}) {
                Due.answer("one unit less than " + texts[i], x.readings(0, 0, place), 0);
                Due.answer("one unit less than " + texts[i], x.readingsAnew(0, 0, place), 0);
            }
            Notes.type(x, 1, texts[i]);
            Due.answer("just " + texts[i], x.read(0, 1, 0, 0), texts[i].length());
        }
    }

    /** The face has two units: five faces and a sign are 11, so that five of these and five units are 60. */
    private static void sixtyUnitsOfPairs() {
        for (int width = 5; width <= 6; width++) {
            NotationPress x = new NotationPress();
            for (int slot = 0; slot < 5; slot++) {
                x.item(OPEN, slot, '!', 0);
                x.set(slot, 0, Notes.word("@@@@@"));
            }
            x.item(NUMBER, 5, width, 1);
            x.set(5, 0, 0);
            x.description();
            if (width == 5) Due.answer("60 units", x.print(0, 0), 61);
            else Due.state("61 units", () -> x.print(0, 0));
            if (width == 5) Due.answer("read()", x.read(0, 0, 0, 0), 60);
        }
    }

    private static void ninetyNineReadings() {
        NotationPress x = Notes.press(
            Notes.items(WORD, 0, 3, 2, WORD, 1, 3, 2, WORD, 2, 5, 2),
            Notes.items(WORD, 0, 2, 2, OPEN, 1, 'a', 0, OPEN, 2, 'a', 0),
            Notes.items(WORD, 0, 4, 2, WORD, 1, 4, 2, WORD, 2, 3, 2));
        Notes.type(x, 0, "a".repeat(12));
        Notes.type(x, 1, "a".repeat(11));
        int[] files = {1, 0, 1};
        int[] due = {96, 99, 99};
        int[] all = {96, 99, 100};
        for (int d = 0; d < 3; d++) {
            int description = d;
            Due.answer("readings() of " + all[d], x.readings(d, files[d], 0), due[d]);
            Due.answer("readingsAnew() of " + all[d], x.readingsAnew(d, files[d], 0), due[d]);
            Due.answer("the last of " + all[d], x.read(d, files[d], 0, all[d] - 1) > 0 ? 1 : 0, 1);
            Due.index("one more than " + all[d], () -> x.read(description, files[description], 0, all[description]));
        }
    }

    /** Whether a constraint holds for a value of the slot 0, with one in slot 1. */
    private static void holds(int kind, int b, int value, int other, boolean due) {
        NotationPress x = Notes.press(Notes.items(NUMBER, 0, 8, 0, NUMBER, 1, 8, 0));
        x.constrain(0, kind, 0, b, 0, 99);
        x.set(0, 0, value);
        x.set(1, 0, other);
        String call = "kind " + kind + ", b " + b + ", values " + value + " and " + other;
        Due.answer(call, x.message(0), due ? 0 : 99);
    }

    private static void constraintsByTheirNumbers() {
        for (int number : new int[] {0, 1, 998, 999}) {
            holds(1, number, number, NOTHING, true);
            holds(1, number, number - 1, NOTHING, false);
            holds(1, number, number + 1, NOTHING, false);
            holds(1, number, NOTHING, NOTHING, true);
        }
        for (int value = -100; value <= 100; value++) {
            holds(3, 1, value, NOTHING, true);
            holds(3, 2, value, NOTHING, value % 2 == 0);
            holds(3, 99, value, NOTHING, value == 0 || value == 99 || value == -99);
        }
        holds(3, 99, NOTHING, NOTHING, true);
        holds(3, 2, Integer.MAX_VALUE, NOTHING, false);
        holds(3, 1, NOTHING + 1, NOTHING, true);
        int most = Integer.MAX_VALUE;
        int[][] less = {{0, 1}, {-1, 0}, {most - 1, most}, {NOTHING + 1, NOTHING + 2}, {NOTHING + 1, most}};
        for (int[] two : less) {
            holds(0, 1, two[0], two[1], true);
            holds(0, 1, two[1], two[0], false);
            holds(0, 1, two[0], two[0], false);
            holds(0, 1, two[1], NOTHING, true);
            holds(0, 1, NOTHING, two[0], true);
        }
    }

    private static void sumsBeyondInts() {
        int most = Integer.MAX_VALUE;
        int least = NOTHING + 1;
        int[][] sums = {{1, 2, 3}, {most, 0, most}, {most - 1, 1, most}, {least, 0, least}, {least + 1, -1, least},
            {most, least, 0}, {-1, 1, 0}};
        int[][] none = {{1, 2, 4}, {1, 2, 2}, {most, most, -2}, {most, 2, least}, {least, -2, most}, {least, least, 2}};
        for (int i = 0; i < sums.length + none.length; i++) {
            boolean due = i < sums.length;
            int[] three = due ? sums[i] : none[i - sums.length];
            NotationPress x = Notes.press(Notes.items(NUMBER, 0, 8, 0));
            x.constrain(0, 2, 5, 6, 7, 1);
            for (int slot = 0; slot < 3; slot++) x.set(5 + slot, 0, three[slot]);
            Due.answer(three[0] + " and " + three[1] + " is " + three[2], x.message(0), due ? 0 : 1);
            for (int slot = 5; slot < 8; slot++) {
                int before = x.set(slot, 0, NOTHING);
                Due.answer("without slot " + slot, x.message(0), 0);
                x.set(slot, 0, before);
            }
        }
    }

    /** Each of the 256 numbers of eight bits, as each of four characters, with "a" ahead of it, and behind it. */
    private static void charactersInEachPlace() {
        for (int place = 0; place < 4; place++) {
            NotationPress x = new NotationPress();
            int typed = 0;
            for (int unit = 0; unit < 256; unit++) {
                int ahead = 0x00616161 & (1 << 8 * place) - 1;
                int four = ahead | unit << 8 * place;
                boolean fine = unit == 10 || unit >= 32 && unit <= 126;
                if (unit == 0 && place > 0) {
                    typed += place;
                    Due.answer("no character at " + place, x.type(0, four), typed);
                } else if (!fine) {
                    Due.argument("type(0, " + four + ")", () -> x.type(0, four));
                } else if (typed + place < 300) {
                    typed += place + 1;
                    Due.answer("type(0, " + four + ")", x.type(0, four), typed);
                    Due.answer("unit()", x.unit(0, typed - 1), unit);
                } else {
                    Due.state("type(0, " + four + "), full", () -> x.type(0, four));
                }
            }
            for (int behind = place + 1; behind < 4; behind++) {
                int gap = ~(255 << 8 * place) & (1 << 8 * behind) - 1 & 0x61616161 | 'b' << 8 * behind;
                Due.argument("a gap at " + place + ", b at " + behind, () -> x.type(1, gap));
            }
        }
    }

    /** A draft that is no description stays as it is: with what it lacks it becomes one. */
    private static void draftsThatAreNone() {
        NotationPress x = new NotationPress();
        Due.answer("empty", x.description(), -1);
        x.item(COUNT, 0, 0, 0);
        x.item(LOOP, 0, 2, 0);
        Due.answer("no item behind", x.description(), -1);
        x.item(SIGN, 'A', 0, 0);
        Due.answer("one item behind", x.description(), -1);
        Due.index("none is made", () -> x.sure(0));
        Due.answer("the fourth item", x.item(SIGN, 'B', 0, 0), 4);
        Due.answer("two items behind", x.description(), 0);
        x.set(0, 0, 3);
        Notes.prints("3ABABAB", x, 0);
        Due.answer("the draft is empty", x.description(), -1);
        Due.answer("and has none", x.dropItems(), 0);
    }
}
