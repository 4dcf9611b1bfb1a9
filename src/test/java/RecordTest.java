/** Promises 7 to 10: set, get, message, sample. */
public final class RecordTest {
    private static final int NOTHING = NotationPress.NOTHING;
    private static final int MOST = Integer.MAX_VALUE;

    public static void main(String[] args) {
        setAndGet();
        setAndGetThrow();
        messages();
        messagesOfWholeNumbers();
        messageThrows();
        sampleOfOneValue();
        sampleGoesOnWithTheSeed();
        sampleTriesRisingAndRound();
        sampleGoesBack();
        sampleOfLoopsAndCases();
        sampleThatCanBePrinted();
        sampleOfWords();
        sampleWithoutValues();
        sampleByTurns();
        sampleByTurnsWithConstraints();
        sampleOfTwentyValues();
        sampleHasFiveHundredTries();
        sampleThrows();
        Due.end();
    }

    private static void setAndGet() {
        NotationPress x = new NotationPress();
        for (int i = 0; i < 24; i++) {
            Due.answer("set() at first", x.set(i / 3, i % 3, i == 5 ? MOST : -i), NOTHING);
        }
        for (int i = 0; i < 24; i++) Due.answer("get()", x.get(i / 3, i % 3), i == 5 ? MOST : -i);
        Due.answer("set() again", x.set(7, 2, 8), -23);
        Due.answer("set() to nothing", x.set(7, 2, NOTHING), 8);
        Due.answer("get() of nothing", x.get(7, 2), NOTHING);
        Due.answer("set() from nothing", x.set(7, 2, NOTHING + 1), NOTHING);
        Due.answer("get() of the least", x.get(7, 2), NOTHING + 1);
        Due.answer("get() of another", x.get(7, 1), -22);
    }

    private static void setAndGetThrow() {
        NotationPress x = new NotationPress();
        for (int slot : new int[] {-1, 8, NOTHING, MOST}) {
            Due.index("set(" + slot + ", 0, 5)", () -> x.set(slot, 0, 5));
            Due.index("get(" + slot + ", 0)", () -> x.get(slot, 0));
        }
        for (int round : new int[] {-1, 3, NOTHING, MOST}) {
            Due.index("set(0, " + round + ", 5)", () -> x.set(0, round, 5));
            Due.index("get(0, " + round + ")", () -> x.get(0, round));
            Due.index("set(1, " + round + ", 5)", () -> x.set(1, round, 5));
        }
        Notes.isEmpty("behind what was thrown", x);
    }

    private static NotationPress numbers() {
        return Notes.press(Notes.items(0, 0, 8, 0, 0, 1, 8, 0, 0, 2, 8, 0));
    }

    private static void messages() {
        NotationPress x = numbers();
        x.constrain(0, 0, 0, 1, 0, 11);
        x.constrain(0, 1, 1, 7, 0, 22);
        x.constrain(0, 3, 2, 3, 0, 33);
        x.constrain(0, 2, 0, 1, 2, 44);
        Due.answer("no values", x.message(0), 0);
        x.set(0, 0, 7);
        Due.answer("one value", x.message(0), 0);
        x.set(1, 0, 7);
        Due.answer("not less", x.message(0), 11);
        x.set(0, 0, 6);
        Due.answer("less, equal, nothing", x.message(0), 0);
        x.set(2, 0, 12);
        Due.answer("12 is not 6 and 7", x.message(0), 44);
        x.set(2, 0, 13);
        Due.answer("13 cannot be divided by 3", x.message(0), 33);
        x.set(1, 0, 8);
        Due.answer("8 is not 7", x.message(0), 22);
        x.set(0, 0, 9);
        Due.answer("the first one goes", x.message(0), 11);
        x.set(0, 0, NOTHING);
        x.set(0, 1, 9);
        Due.answer("round 1 does not matter", x.message(0), 22);
        Due.answer("message() changes nothing", x.get(2, 0), 13);
    }

    private static void messagesOfWholeNumbers() {
        NotationPress x = numbers();
        x.constrain(0, 2, 0, 1, 2, 1);
        x.constrain(0, 0, 0, 1, 0, 2);
        x.set(0, 0, MOST);
        x.set(1, 0, MOST);
        x.set(2, 0, -2);
        Due.answer("beyond ints", x.message(0), 1);
        x.set(2, 0, NOTHING);
        Due.answer("not less than itself", x.message(0), 2);
        x.set(0, 0, NOTHING + 1);
        Due.answer("the least is less", x.message(0), 0);
        x.set(2, 0, 0);
        Due.answer("the least and the most", x.message(0), 0);
        NotationPress y = numbers();
        y.constrain(0, 3, 0, 7, 0, 5);
        int[] values = {0, 7, -7, 8, -8, 1};
        for (int value : values) {
            y.set(0, 0, value);
            Due.answer(value + " by 7", y.message(0), value % 7 == 0 ? 0 : 5);
        }
        NotationPress z = numbers();
        z.constrain(0, 2, 0, 0, 0, 6);
        z.constrain(0, 0, 7, 6, 0, 7);
        z.set(0, 0, 1);
        Due.answer("1 and 1 is not 1", z.message(0), 6);
        z.set(0, 0, 0);
        z.set(7, 0, 2);
        z.set(6, 0, 1);
        Due.answer("slots without items count as well", z.message(0), 7);
    }

    private static void messageThrows() {
        NotationPress x = numbers();
        for (int d : new int[] {-1, 1, MOST}) Due.index("message(" + d + ")", () -> x.message(d));
    }

    /** For the seed 5 the first number is 18655: the seed 5 becomes 1222621274. */
    private static void sampleOfOneValue() {
        int[][] items = {{0, 3, 8, 0}, {6, 3, 0, 0}, {3, 3, 1, 0}, {3, 3, 2, 0}, {3, 3, 3, 0}, {3, 3, 8, 0},
            {1, 3, 1, 0}, {1, 3, 2, 0}, {1, 3, 9, 2}, {2, 3, 33, 0}};
        int[] many = {10, 4, 2, 4, 8, 8, 27, 28, 28, 28};
        for (int i = 0; i < items.length; i++) {
            NotationPress x = new NotationPress();
            Notes.describe(x, items[i]);
            x.set(0, 0, 1);
            x.set(3, 1, 2);
            x.set(7, 2, 3);
            Due.answer("sample " + i, x.sample(0, 5) ? 1 : 0, 1);
            Due.answer("sample " + i, x.get(3, 0), 18655 % many[i]);
            Due.answer("the others are gone", x.get(0, 0), NOTHING);
            Due.answer("the rounds are gone", x.get(3, 1), NOTHING);
            Due.answer("the last is gone", x.get(7, 2), NOTHING);
        }
    }

    private static int number(long seed) {
        return (int) (seed / 65536);
    }

    private static long next(long seed) {
        return (1103515245L * seed + 12345L) % 2147483648L;
    }

    private static void sampleGoesOnWithTheSeed() {
        NotationPress x = Notes.press(Notes.items(0, 5, 1, 0, 5, 65, 0, 0, 0, 2, 1, 0, 3, 0, 8, 0, 4, 0, 0, 0));
        for (int seed : new int[] {0, 1, 77, 999999, 1000000}) {
            long first = next(seed);
            long second = next(first);
            long third = next(second);
            Due.answer("sample()", x.sample(0, seed) ? 1 : 0, 1);
            Due.answer("the first value", x.get(5, 0), number(first) % 10);
            Due.answer("the second value", x.get(2, 0), number(second) % 10);
            Due.answer("the third value", x.get(0, 0), number(third) % 8);
        }
    }

    private static void sampleTriesRisingAndRound() {
        for (int due = 0; due < 10; due++) {
            NotationPress x = Notes.press(Notes.items(0, 0, 1, 0));
            x.constrain(0, 1, 0, due, 0, 1);
            Due.answer("sample()", x.sample(0, 5) ? 1 : 0, 1);
            Due.answer("sample() of " + due, x.get(0, 0), due);
        }
        NotationPress x = Notes.press(Notes.items(0, 0, 1, 0));
        x.constrain(0, 3, 0, 4, 0, 1);
        x.sample(0, 5);
        Due.answer("from 5 on, by 4", x.get(0, 0), 8);
        NotationPress y = Notes.press(Notes.items(0, 0, 1, 0));
        y.constrain(0, 3, 0, 3, 0, 1);
        y.constrain(0, 3, 0, 2, 0, 1);
        y.constrain(0, 0, 0, 1, 0, 1);
        y.sample(0, 5);
        Due.answer("from 5 on, by 6", y.get(0, 0), 6);
        NotationPress z = Notes.press(Notes.items(0, 0, 1, 0));
        z.constrain(0, 1, 0, 10, 0, 1);
        z.set(4, 1, 44);
        Due.answer("none", z.sample(0, 5) ? 1 : 0, 0);
        Due.answer("nothing changes", z.get(4, 1), 44);
    }

    /** Slot 0 is 5 at first, with which no count is more: for slot 1 a number is drawn then, and with 6 anew. */
    private static void sampleGoesBack() {
        NotationPress x = Notes.press(Notes.items(0, 0, 1, 0, 6, 1, 0, 0));
        x.constrain(0, 0, 0, 1, 0, 1);
        long seed = next(5);
        int first = number(seed) % 10;
        boolean found = false;
        int second = 0;
        for (int i = 0; i < 10 && !found; i++) {
            first = (number(next(5)) + i) % 10;
            seed = next(seed);
            for (int j = 0; j < 4 && !found; j++) {
                second = (number(seed) + j) % 4;
                found = first < second;
            }
        }
        Due.answer("sample()", x.sample(0, 5) ? 1 : 0, 1);
        Due.answer("the first value", x.get(0, 0), first);
        Due.answer("the second value", x.get(1, 0), second);
    }

    private static void sampleOfLoopsAndCases() {
        NotationPress x = Notes.press(Notes.items(6, 0, 0, 0, 7, 0, 2, 0, 0, 1, 1, 0, 3, 2, 3, 0, 8, 0, 1, 1, 0, 3, 1, 0,
            0, 4, 1, 0));
        for (int seed = 0; seed < 12; seed++) {
            long at = next(seed);
            int count = number(at) % 4;
            Due.answer("sample()", x.sample(0, seed) ? 1 : 0, 1);
            Due.answer("the count", x.get(0, 0), count);
            for (int round = 0; round < 3; round++) {
                boolean there = round < count;
                at = there ? next(at) : at;
                Due.answer("number of a round", x.get(1, round), there ? number(at) % 10 : NOTHING);
                at = there ? next(at) : at;
                Due.answer("bits of a round", x.get(2, round), there ? number(at) % 8 : NOTHING);
            }
            at = count == 1 ? next(at) : at;
            Due.answer("number of the case", x.get(3, 0), count == 1 ? number(at) % 10 : NOTHING);
            at = next(at);
            Due.answer("number behind them", x.get(4, 0), number(at) % 10);
        }
    }

    private static void sampleThatCanBePrinted() {
        NotationPress x = Notes.press(
            Notes.items(6, 0, 0, 0, 8, 0, 1, 2, 0, 1, 1, 0, 9, 1, 0, 0),
            Notes.items(6, 0, 0, 0, 7, 0, 3, 0, 0, 1, 8, 0, 0, 2, 8, 0, 0, 3, 8, 0),
            Notes.items(0, 0, 8, 0, 0, 1, 8, 0, 0, 2, 8, 0, 0, 3, 8, 0, 0, 4, 8, 0, 0, 5, 8, 0, 0, 6, 8, 0, 1, 7, 5, 0),
            Notes.items(9, 0, 0, 0, 0, 0, 1, 0));
        for (int seed = 0; seed < 8; seed++) {
            Due.answer("only with the case", x.sample(0, seed) ? 1 : 0, 1);
            Due.answer("only with the case", x.get(0, 0), 2);
        }
        // With 3 rounds, 73 units come of it; all values of the rounds would have to be gone through.
        Due.answer("too long, too many tries", x.sample(1, 5) ? 1 : 0, 0);
        Due.answer("nothing changes", x.get(0, 0), 2);
        Due.answer("61 units", x.sample(2, 5) ? 1 : 0, 0);
        Due.answer("back to nothing", x.sample(3, 5) ? 1 : 0, 0);
        Due.answer("nothing changes", x.get(0, 0), 2);
    }

    private static void sampleOfWords() {
        NotationPress x = Notes.press(Notes.items(1, 0, 1, 0), Notes.items(1, 0, 2, 0));
        boolean faceOfTwo = false;
        for (int seed = 0; seed < 100; seed++) {
            x.sample(0, seed);
            Due.answer("a word of one unit", x.get(0, 0), number(next(seed)) % 27);
            x.sample(1, seed);
            faceOfTwo |= x.get(0, 0) == 27;
            Due.answer("a word of two units", x.get(0, 0), number(next(seed)) % 28);
        }
        Due.answer("the face has been drawn", faceOfTwo ? 1 : 0, 1);
    }

    private static void sampleWithoutValues() {
        NotationPress x = Notes.press(Notes.items(5, 65, 0, 0, 4, 0, 0, 0));
        x.set(0, 0, 1);
        Due.answer("sample()", x.sample(0, 0) ? 1 : 0, 1);
        Notes.isEmpty("sample() without values", x);
    }

    /** What was drawn for one description does not matter for another one. */
    private static void sampleByTurns() {
        NotationPress x = Notes.press(
            Notes.items(5, 'A', 0, 0, 5, 'B', 0, 0, 6, 1, 0, 0, 7, 1, 1, 0, 3, 2, 1, 0, 0, 3, 1, 0),
            Notes.items(0, 0, 1, 0, 0, 4, 1, 0),
            Notes.items(5, 'A', 0, 0, 4, 0, 0, 0, 5, 'B', 0, 0));
        for (int seed = 0; seed < 12; seed++) {
            Due.answer("with signs and a loop", x.sample(0, seed) ? 1 : 0, 1);
            Due.answer("the count", x.get(1, 0), number(next(seed)) % 4);
            Due.answer("without", x.sample(1, seed) ? 1 : 0, 1);
            Due.answer("the first value", x.get(0, 0), number(next(seed)) % 10);
            Due.answer("the second value", x.get(4, 0), number(next(next(seed))) % 10);
            Due.answer("none of the other", x.get(1, 0), NOTHING);
            if (seed % 3 == 0) Due.answer("without values", x.sample(2, seed) ? 1 : 0, 1);
            if (seed % 3 == 0) Due.answer("none", x.get(0, 0), NOTHING);
        }
    }

    /** What was given up for one description does not matter for another one, or for another seed. */
    private static void sampleByTurnsWithConstraints() {
        NotationPress x = Notes.press(
            Notes.items(5, 'A', 0, 0, 0, 2, 1, 0, 0, 3, 1, 0),
            Notes.items(0, 4, 1, 0),
            Notes.items(5, 'A', 0, 0, 5, 'B', 0, 0, 5, 'C', 0, 0, 3, 5, 8, 0));
        x.constrain(0, 1, 2, 3, 0, 1);
        x.constrain(0, 1, 3, 9, 0, 1);
        x.constrain(1, 1, 4, 10, 0, 1);
        x.constrain(2, 1, 5, 7, 0, 1);
        for (int seed = 0; seed < 20; seed++) {
            Due.answer("two values", x.sample(0, seed) ? 1 : 0, 1);
            Notes.slots("two values", x, NOTHING, NOTHING, 3, 9, NOTHING, NOTHING);
            Due.answer("none", x.sample(1, seed) ? 1 : 0, 0);
            Due.answer("nothing changes", x.get(2, 0), 3);
            Due.answer("one value", x.sample(2, seed) ? 1 : 0, 1);
            Notes.slots("one value", x, NOTHING, NOTHING, NOTHING, NOTHING, NOTHING, 7);
        }
    }

    /** With eight slots there are no more values than these: a count, two loops of three items, and one behind them. */
    private static void sampleOfTwentyValues() {
        NotationPress x = Notes.press(Notes.items(6, 0, 0, 0, 7, 0, 3, 0, 0, 1, 1, 0, 3, 2, 1, 0, 1, 3, 2, 1,
            7, 0, 3, 0, 2, 4, '!', 0, 6, 5, 0, 0, 3, 6, 3, 0, 0, 7, 1, 0));
        x.constrain(0, 1, 0, 3, 0, 1);
        int[] many = {10, 2, 28, 28, 4, 8};
        for (int seed = 0; seed < 8; seed++) {
            long at = next(seed);
            Due.answer("sample()", x.sample(0, seed) ? 1 : 0, 1);
            Due.answer("the count", x.get(0, 0), 3);
            for (int i = 0; i < 18; i++) {
                at = next(at);
                int slot = 1 + i % 3 + 3 * (i / 9);
                Due.answer("slot " + slot, x.get(slot, i / 3 % 3), number(at) % many[slot - 1]);
            }
            Due.answer("the last value", x.get(7, 0), number(next(at)) % 10);
        }
    }

    /** With these seeds the sample is found by the 499th, 500th, 501st and 502nd try, as PlainPress counts them. */
    private static void sampleHasFiveHundredTries() {
        int[] seeds = {3152, 3487, 2503, 3209, 2138, 6299, 6721, 10828};
        for (int i = 0; i < seeds.length; i++) {
            NotationPress x = Notes.press(Notes.items(3, 4, 1, 0, 0, 0, 1, 0, 0, 1, 1, 0, 0, 2, 1, 0, 0, 3, 1, 0,
                6, 5, 0, 0));
            x.constrain(0, 2, 0, 1, 2, 1);
            x.constrain(0, 2, 2, 0, 3, 2);
            x.constrain(0, 1, 3, 9, 0, 3);
            x.constrain(0, 2, 4, 0, 5, 3);
            x.set(7, 0, 7);
            Due.answer("sample(0, " + seeds[i] + ")", x.sample(0, seeds[i]) ? 1 : 0, i < 4 ? 1 : 0);
            Due.answer("another value", x.get(7, 0), i < 4 ? NOTHING : 7);
        }
    }

    private static void sampleThrows() {
        NotationPress x = numbers();
        x.set(0, 0, 5);
        for (int d : new int[] {-1, 1, MOST}) {
            Due.index("sample(" + d + ")", () -> x.sample(d, 0) ? 1 : 0);
            Due.index("sample(" + d + "), seed wrong too", () -> x.sample(d, -1) ? 1 : 0);
        }
        for (int seed : new int[] {-1, 1000001, NOTHING, MOST}) {
            Due.argument("sample(0, " + seed + ")", () -> x.sample(0, seed) ? 1 : 0);
        }
        Due.answer("nothing changes", x.get(0, 0), 5);
    }
}
