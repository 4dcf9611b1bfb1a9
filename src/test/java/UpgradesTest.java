/** Promises 27 to 32: change, upgrade, compose, reverse, upgraded, parts. */
public final class UpgradesTest {
    private static final int NOTHING = NotationPress.NOTHING;
    private static final int MOST = Integer.MAX_VALUE;
    private static final int SLOT = 0, PLAIN = 1, SUM = 2, MULTIPLE = 3, JOIN = 4;

    public static void main(String[] args) {
        changes();
        changeThrows();
        upgrades();
        upgradedValues();
        valuesThatDoNotFit();
        multiplesThatDoNotFit();
        composes();
        composesWithoutValues();
        composesInOrder();
        composesTooMuch();
        reverses();
        reversesInwards();
        reversesByTheLowerSlot();
        reversesEachSlotByItself();
        reversesNot();
        reversesTooMuch();
        reversesOneTooMuch();
        quotientsAndRests();
        eightUpgrades();
        upgradesThrow();
        Due.end();
    }

    /** A press with an upgrade for each row of steps, four numbers a step: kind, to, a and b. */
    private static NotationPress press(int[][]... upgrades) {
        NotationPress x = new NotationPress();
        for (int i = 0; i < upgrades.length; i++) {
            for (int[] s : upgrades[i]) x.change(s[0], s[1], s[2], s[3]);
            Due.answer("upgrade()", x.upgrade(), i);
        }
        return x;
    }

    private static int[][] steps(int... fours) {
        return Notes.items(fours);
    }

    private static void record(NotationPress x, int... values) {
        for (int i = 0; i < values.length; i++) x.set(i, 0, values[i]);
    }

    private static void tells(String call, NotationPress x, int upgrade, int... due) {
        for (int i = 0; i < 8; i++) {
            Due.answer(call + ": upgraded(" + upgrade + ", " + i + ")", x.upgraded(upgrade, i),
                i < due.length ? due[i] : NOTHING);
        }
    }

    private static void changes() {
        NotationPress x = new NotationPress();
        Due.answer("one slot", x.change(SLOT, 7, 7, 0), 1);
        Due.answer("another", x.change(PLAIN, 0, -999, 0), 2);
        Due.answer("the same", x.change(PLAIN, 0, 999, 0), 2);
        Due.answer("a third", x.change(SUM, 1, 0, -999), 3);
        Due.answer("the same", x.change(SUM, 1, 0, 999), 3);
        Due.answer("a fourth", x.change(MULTIPLE, 2, 0, 2), 4);
        Due.answer("the same", x.change(MULTIPLE, 2, 0, 9), 4);
        Due.answer("a fifth", x.change(JOIN, 3, 7, 0), 5);
        Due.answer("the same", x.change(JOIN, 3, 0, 7), 5);
        x.upgrade();
        record(x, 3, 0, 0, 0, 0, 0, 0, 8);
        tells("the later steps", x, 0, 999, 1002, 27, 308, NOTHING, NOTHING, NOTHING, 8);
        Due.answer("a new draft", x.change(SLOT, 0, 0, 0), 1);
    }

    private static void changeThrows() {
        NotationPress x = new NotationPress();
        for (int no : new int[] {-1, 8, NOTHING, MOST}) {
            for (int kind = -1; kind <= 5; kind++) {
                int k = kind;
                Due.index("kind " + kind + ", to " + no, () -> x.change(k, no, 0, 9999));
            }
            for (int kind : new int[] {SLOT, SUM, MULTIPLE, JOIN}) {
                Due.index("kind " + kind + ", a " + no, () -> x.change(kind, 0, no, 9999 % 8));
            }
            Due.index("a join, b " + no, () -> x.change(JOIN, 0, 0, no));
            Due.argument("a slot, b " + no, () -> x.change(SLOT, 0, 0, no));
            Due.argument("a number, b " + no, () -> x.change(PLAIN, 0, 0, no));
        }
        for (int b : new int[] {-1000, 1000, NOTHING, MOST}) Due.argument("a sum", () -> x.change(SUM, 0, 0, b));
        for (int b : new int[] {-1, 0, 1, 10, NOTHING}) Due.argument("a multiple", () -> x.change(MULTIPLE, 0, 0, b));
        for (int a : new int[] {-1000, 1000, NOTHING, MOST}) Due.argument("a number", () -> x.change(PLAIN, 0, a, 0));
        Due.argument("kind -1", () -> x.change(-1, 0, 0, 0));
        Due.argument("kind 5", () -> x.change(5, 0, 0, 0));
        Due.answer("nothing changes", x.change(PLAIN, 4, 8, 0), 1);
        x.upgrade();
        tells("nothing changes", x, 0, NOTHING, NOTHING, NOTHING, NOTHING, 8);
    }

    private static void upgrades() {
        NotationPress x = press(steps(), steps(SLOT, 3, 4, 0), steps(JOIN, 0, 1, 1, SUM, 1, 0, 1, PLAIN, 2, 5, 0));
        Due.answer("an empty one", x.parts(0), 0);
        Due.answer("of one step", x.parts(1), 1);
        Due.answer("of three steps", x.parts(2), 3 + 2 + 1);
        record(x, 1, 2, 3, 4, 5);
        tells("an empty one", x, 0);
        tells("of one step", x, 1, NOTHING, NOTHING, NOTHING, 5);
        tells("of three steps", x, 2, 202, 2, 5);
        Due.answer("the record stays", x.get(0, 0), 1);
    }

    private static void upgradedValues() {
        NotationPress x = press(steps(SLOT, 0, 1, 0, PLAIN, 1, -7, 0, SUM, 2, 1, -5, MULTIPLE, 3, 1, 9, JOIN, 4, 1, 2));
        tells("no values", x, 0, NOTHING, -7);
        x.set(1, 1, 5);
        x.set(1, 2, 5);
        tells("rounds do not matter", x, 0, NOTHING, -7);
        x.set(1, 0, -3);
        tells("a value", x, 0, -3, -7, -8, -27, NOTHING);
        x.set(2, 0, -4);
        tells("two values", x, 0, -3, -7, -8, -27, -304);
        x.set(1, 0, 30000000);
        x.set(2, 0, NOTHING);
        tells("the first of a join", x, 0, 30000000, -7, 29999995, 270000000, NOTHING);
        x.set(1, 0, NOTHING);
        x.set(2, 0, -4);
        tells("the other value", x, 0, NOTHING, -7, NOTHING, NOTHING, NOTHING);
    }

    private static void valuesThatDoNotFit() {
        NotationPress x = press(
            steps(SLOT, 0, 0, 0, SUM, 1, 0, 1, SUM, 2, 0, -1, MULTIPLE, 3, 0, 2, JOIN, 4, 0, 1),
            steps(SUM, 0, 0, 999, SUM, 1, 1, -999), steps(SUM, 0, 0, -999, SUM, 1, 1, 999));
        record(x, MOST, 0);
        tells("the most", x, 0, MOST, NOTHING, MOST - 1, NOTHING, NOTHING);
        record(x, MOST / 2, 0);
        tells("half of it", x, 0, MOST / 2, MOST / 2 + 1, MOST / 2 - 1, MOST - 1, NOTHING);
        record(x, MOST / 2 + 1, 0);
        tells("half of it and 1", x, 0, MOST / 2 + 1, MOST / 2 + 2, MOST / 2, NOTHING, NOTHING);
        record(x, -MOST, 0);
        tells("the least: less 1 it is NOTHING", x, 0, -MOST, -MOST + 1, NOTHING, NOTHING, NOTHING);
        record(x, NOTHING / 2, 0);
        tells("twice it is NOTHING", x, 0, NOTHING / 2, NOTHING / 2 + 1, NOTHING / 2 - 1, NOTHING, NOTHING);
        record(x, 21474836, 47);
        tells("just the most", x, 0, 21474836, 21474837, 21474835, 42949672, MOST);
        record(x, 21474836, 48);
        tells("one more", x, 0, 21474836, 21474837, 21474835, 42949672, NOTHING);
        record(x, 21474837, -100);
        tells("the whole fits", x, 0, 21474837, 21474838, 21474836, 42949674, 2147483600);
        record(x, -21474836, -47);
        tells("just the least", x, 0, -21474836, -21474835, -21474837, -42949672, -MOST);
        record(x, -21474836, -48);
        tells("NOTHING", x, 0, -21474836, -21474835, -21474837, -42949672, NOTHING);
        // What goes up by 999 goes down by 999 behind it: a part inside does not fit, though the whole would.
        x.compose(1, 2);
        record(x, MOST - 998, -MOST + 998);
        tells("a part too great", x, 3, NOTHING, NOTHING);
        record(x, MOST - 999, -MOST + 999);
        tells("parts that fit", x, 3, MOST - 999, -MOST + 999);
    }

    private static void multiplesThatDoNotFit() {
        for (int times = 2; times <= 9; times++) {
            NotationPress x = press(steps(MULTIPLE, 0, 0, times));
            int most = MOST / times;
            for (int value : new int[] {0, 1, -1, most, -most}) {
                x.set(0, 0, value);
                Due.answer(value + ", " + times + " times", x.upgraded(0, 0), value * times);
            }
            for (int value : new int[] {most + 1, -most - 1, MOST, -MOST}) {
                x.set(0, 0, value);
                Due.answer(value + ", " + times + " times", x.upgraded(0, 0), NOTHING);
            }
        }
    }

    private static void composes() {
        NotationPress x = press(
            steps(SUM, 0, 1, 5, MULTIPLE, 1, 0, 3, PLAIN, 2, 8, 0),
            steps(SLOT, 0, 1, 0, JOIN, 1, 0, 2, MULTIPLE, 2, 2, 2, SUM, 3, 1, -1, PLAIN, 4, 6, 0));
        Due.answer("compose(0, 1)", x.compose(0, 1), 2);
        Due.answer("its parts", x.parts(2), 2 + 4 + 2 + 3 + 1);
        record(x, 7, 10);
        tells("composed", x, 2, 21, 1508, 16, 20, 6);
        Due.answer("compose(1, 0)", x.compose(1, 0), 3);
        Due.answer("its parts", x.parts(3), 4 + 2 + 1);
        record(x, 7, 10, 4);
        tells("composed the other way", x, 3, 709, 30, 8);
        Due.answer("compose(1, 1)", x.compose(1, 1), 4);
        tells("composed with itself", x, 4, 704, 1008, 16, 703, 6);
    }

    private static void composesWithoutValues() {
        NotationPress x = press(
            steps(SLOT, 0, 5, 0),
            steps(SLOT, 0, 1, 0, JOIN, 1, 0, 1, JOIN, 2, 1, 0, SUM, 3, 7, 3, MULTIPLE, 4, 0, 2, PLAIN, 5, 1, 0));
        NotationPress y = press(steps(SLOT, 0, 5, 0), steps(SLOT, 0, 0, 0, SLOT, 1, 1, 0, PLAIN, 2, 3, 0, SLOT, 3, 7, 0));
        y.compose(0, 1);
        y.set(5, 0, 44);
        Due.answer("two have parts", y.parts(2), 2);
        tells("two have values", y, 2, 44, NOTHING, 3);
        Due.answer("compose(0, 1)", x.compose(0, 1), 2);
        Due.answer("only what has values has parts", x.parts(2), 2 + 1);
        record(x, 1, 1, 1, 1, 1, 9, 1, 1);
        tells("composed", x, 2, NOTHING, NOTHING, NOTHING, NOTHING, 18, 1);
        Due.answer("reverse(2)", x.reverse(2), 3);
        tells("reversed", x, 3, NOTHING, NOTHING, NOTHING, NOTHING, NOTHING, 0);
    }

    private static void composesInOrder() {
        NotationPress x = press(steps(SUM, 0, 0, 1), steps(MULTIPLE, 0, 0, 2));
        x.compose(0, 1);
        x.compose(1, 0);
        x.set(0, 0, 10);
        Due.answer("first the sum", x.upgraded(2, 0), 22);
        Due.answer("first the multiple", x.upgraded(3, 0), 21);
    }

    /** With sums in one another in all slots there are 16, 24, .. parts; the number 1 puts 4 more to them. */
    private static void composesTooMuch() {
        int[][] all = new int[8][];
        int[][] half = new int[8][];
        for (int i = 0; i < 8; i++) {
            all[i] = new int[] {SUM, i, i, 1};
            half[i] = i < 4 ? all[i] : new int[] {SLOT, i, i, 0};
        }
        NotationPress x = press(all, half);
        Due.answer("2 sums each", x.compose(0, 0), 2);
        Due.answer("4 sums each", x.compose(2, 2), 3);
        Due.answer("40 parts", x.parts(3), 40);
        Due.answer("6 sums each", x.compose(3, 2), 4);
        Due.answer("56 parts", x.parts(4), 56);
        Due.answer("64 parts", x.compose(4, 0), -1);
        Due.answer("64 parts", x.compose(0, 4), -1);
        Due.index("none is made", () -> x.parts(5));
        Due.answer("60 parts", x.compose(4, 1), 5);
        Due.answer("60 parts", x.parts(5), 60);
        Due.answer("64 parts", x.compose(5, 1), -1);
        Due.answer("104 parts", x.compose(5, 5), -1);
        Due.answer("60 parts back", x.reverse(5), 6);
        Due.answer("60 parts back", x.parts(6), 60);
        record(x, 0, 10, 20, 30, 40, 50, 60, 70);
        tells("60 parts", x, 5, 7, 17, 27, 37, 46, 56, 66, 76);
        tells("60 parts back", x, 6, -7, 3, 13, 23, 34, 44, 54, 64);
        composesOneTooMuch();
    }

    /** Joins of joins of joins in four slots have 60 parts; a number told by itself is one more. */
    private static void composesOneTooMuch() {
        int[][] joins = steps(JOIN, 0, 0, 0, JOIN, 1, 0, 0, JOIN, 2, 0, 0, JOIN, 3, 0, 0);
        int[][] more = steps(JOIN, 0, 0, 0, JOIN, 1, 0, 0, JOIN, 2, 0, 0, JOIN, 3, 0, 0, PLAIN, 7, 1, 0);
        NotationPress x = press(joins, more);
        Due.answer("28 parts", x.compose(0, 0), 2);
        Due.answer("28 parts", x.parts(2), 28);
        Due.answer("61 parts", x.compose(2, 1), -1);
        Due.index("none is made", () -> x.parts(3));
        Due.answer("29 parts", x.compose(0, 1), 3);
        Due.answer("29 parts", x.parts(3), 29);
        Due.answer("60 parts", x.compose(2, 0), 4);
        Due.answer("60 parts", x.parts(4), 60);
        x.set(0, 0, 1);
        tells("60 parts", x, 4, 1030301, 1030301, 1030301, 1030301);
    }

    private static void reverses() {
        NotationPress x = press(steps(SLOT, 0, 4, 0, SUM, 1, 5, 7, MULTIPLE, 2, 6, 3, JOIN, 3, 7, 0, PLAIN, 4, 9, 0));
        Due.answer("reverse(0)", x.reverse(0), 1);
        Due.answer("its parts", x.parts(1), 2 + 1 + 2 + 2 + 2);
        record(x, 11, 12, 13, 1415, 16, 17, 18, 19);
        tells("reversed", x, 1, 15, NOTHING, NOTHING, NOTHING, 11, 5, 4, 14);
        Due.answer("there and back", x.compose(0, 1), 2);
        tells("there and back", x, 2, 11, NOTHING, NOTHING, NOTHING, 16, 17, 18, 19);
        reversesSlotsBySlots();
        Due.answer("of nothing", press(steps()).reverse(0), 1);
        Due.answer("of numbers alone", press(steps(PLAIN, 0, 5, 0)).reverse(0), 1);
        NotationPress y = press(steps(PLAIN, 0, 5, 0), steps(SUM, 3, 2, -999), steps(SUM, 3, 2, 0));
        y.reverse(0);
        Due.answer("numbers tell nothing", y.parts(3), 0);
        y.reverse(1);
        y.reverse(2);
        y.set(3, 0, 1);
        Due.answer("a sum", y.upgraded(4, 2), 1000);
        Due.answer("a sum of nothing", y.upgraded(5, 2), 1);
        Due.answer("is a sum still", y.parts(5), 2);
        Due.answer("back again", y.reverse(4), 6);
        y.set(2, 0, 1000);
        Due.answer("back again", y.upgraded(6, 3), 1);
    }

    private static void reversesSlotsBySlots() {
        NotationPress x = press(steps(SLOT, 0, 4, 0, SLOT, 1, 5, 0, SLOT, 2, 3, 0, SUM, 3, 2, 6, SLOT, 4, 1, 0),
            steps(SLOT, 0, 0, 0));
        x.reverse(0);
        Due.answer("its parts", x.parts(2), 6);
        record(x, 10, 11, 12, 13, 14, 15, 16, 17);
        tells("slots by slots", x, 2, NOTHING, 14, 7, 12, 10, 11);
        Due.answer("compose(1, 0)", x.compose(1, 0), 3);
        Due.answer("none of its slots is told", x.parts(3), 0);
        Due.answer("compose(0, 2)", x.compose(0, 2), 4);
        tells("there and back", x, 4, NOTHING, 11, 12, 13, 14, 15);
    }

    /** 100 times (slot 0 and 5, added), and 3 times slot 1. */
    private static void reversesInwards() {
        NotationPress x = press(steps(SUM, 0, 0, 5, MULTIPLE, 1, 1, 3), steps(JOIN, 6, 0, 1));
        x.compose(0, 1);
        Due.answer("reverse(2)", x.reverse(2), 3);
        Due.answer("its parts", x.parts(3), 3 + 3);
        x.set(6, 0, 1242);
        tells("reversed", x, 3, 7, 14);
        x.set(6, 0, -1);
        tells("rounded down, and rests at least 0", x, 3, -6, 33);
        NotationPress y = press(steps(JOIN, 0, 0, 1, JOIN, 1, 2, 3), steps(JOIN, 5, 0, 1), steps(PLAIN, 0, 1, 0, SLOT, 1, 1, 0),
            steps(SLOT, 0, 1, 0, PLAIN, 1, 1, 0));
        y.compose(0, 1);
        y.reverse(4);
        Due.answer("a join of joins", y.parts(5), 4 * 3);
        y.set(5, 0, 12345678);
        tells("a join of joins", y, 5, 1234, 56, 0, 78);
        y.compose(2, 1);
        y.reverse(6);
        tells("a number for the first", y, 7, NOTHING, 78);
        NotationPress z = press(steps(SLOT, 0, 1, 0, PLAIN, 1, 1, 0), steps(JOIN, 5, 0, 1));
        z.compose(0, 1);
        z.reverse(2);
        z.set(5, 0, 12345678);
        tells("a number for the second", z, 3, NOTHING, 123456);
    }

    private static void reversesByTheLowerSlot() {
        NotationPress x = press(
            steps(SUM, 5, 0, 1, MULTIPLE, 2, 0, 2, SLOT, 3, 0, 0),
            steps(JOIN, 4, 1, 1, SLOT, 5, 1, 0),
            steps(JOIN, 4, 1, 0, JOIN, 1, 0, 2));
        x.reverse(0);
        x.reverse(1);
        x.reverse(2);
        record(x, 0, 45678, 30, 31, 12345, 33);
        Due.answer("by one slot", x.parts(3), 2);
        tells("by the lowest slot", x, 3, 15);
        Due.answer("by one side", x.parts(4), 2);
        tells("by the first side", x, 4, NOTHING, 123);
        Due.answer("by two slots", x.parts(5), 6);
        tells("by the lowest slots", x, 5, 456, 123, 78);
    }

    /** Slot 0 joins 5 and 1; slot 1 has 0 and 6 joined, within one sum or two: the way to one slot is none to another. */
    private static void reversesEachSlotByItself() {
        NotationPress x = press(steps(JOIN, 0, 5, 1, JOIN, 1, 0, 6), steps(SLOT, 0, 0, 0, SUM, 1, 1, 3));
        for (int sums = 1; sums <= 2; sums++) {
            Due.answer("compose()", x.compose(sums == 1 ? 0 : 2, 1), 2 * sums);
            Due.answer("reverse()", x.reverse(2 * sums), 1 + 2 * sums);
            Due.answer("its parts", x.parts(1 + 2 * sums), 2 + 2 + 2 * (2 + sums));
            record(x, 1234, 5678);
            tells(sums + " sums", x, 1 + 2 * sums, 56, 34, NOTHING, NOTHING, NOTHING, 12, 78 - 3 * sums);
            x.set(0, 0, NOTHING);
            tells("without slot 0", x, 1 + 2 * sums, 56, NOTHING, NOTHING, NOTHING, NOTHING, NOTHING, 78 - 3 * sums);
        }
    }

    private static void reversesNot() {
        NotationPress x = press(steps(MULTIPLE, 0, 0, 2), steps(JOIN, 0, 1, 0), steps(SLOT, 0, 0, 0, SUM, 1, 1, 4));
        Due.answer("with a quotient", x.reverse(0), 3);
        Due.answer("a quotient cannot be reversed", x.reverse(3), -1);
        Due.answer("with a quotient and a rest", x.reverse(1), 4);
        Due.answer("a rest cannot be reversed", x.reverse(4), -1);
        Due.answer("composed with a quotient", x.compose(3, 2), 5);
        Due.answer("a quotient inside cannot be reversed", x.reverse(5), -1);
        Due.index("none is made", () -> x.parts(6));
        Due.answer("what has none can", x.reverse(2), 6);
        x.change(PLAIN, 7, 1, 0);
        Due.answer("one more", x.upgrade(), 7);
        Due.state("no more, though it cannot be reversed", () -> x.reverse(3));
    }

    /** The whole old record in one slot; back, each slot has a part, the three joins around it, and the sums. */
    private static NotationPress joinOfAll() {
        NotationPress x = press(steps(JOIN, 0, 0, 1, JOIN, 1, 2, 3, JOIN, 2, 4, 5, JOIN, 3, 6, 7));
        Due.answer("joins of joins", x.compose(0, 0), 1);
        Due.answer("the join of all", x.compose(1, 0), 2);
        Due.answer("its parts", x.parts(2), 15);
        x.change(SUM, 0, 0, 1);
        Due.answer("a sum", x.upgrade(), 3);
        return x;
    }

    private static void reversesTooMuch() {
        NotationPress x = joinOfAll();
        x.compose(2, 3);
        x.compose(4, 3);
        Due.answer("3 sums around it", x.compose(5, 3), 6);
        Due.answer("its parts", x.parts(6), 18);
        Due.answer("back", x.reverse(6), 7);
        Due.answer("8 slots of 7 parts", x.parts(7), 56);
        x.set(0, 0, 1020303);
        tells("back", x, 7, 1, 2, 0, 3, 0, 0, 0, 0);
        NotationPress y = joinOfAll();
        y.compose(3, 3);
        y.compose(2, 4);
        Due.answer("4 sums around it", y.compose(5, 4), 6);
        Due.answer("its parts", y.parts(6), 19);
        Due.answer("8 slots of 8 parts", y.reverse(6), -1);
        Due.index("none is made", () -> y.parts(7));
        Due.answer("the one ahead can be reversed", y.reverse(2), 7);
        Due.answer("8 slots of 4 parts", y.parts(7), 32);
    }

    /** Both have slots that come to old slots through sums and joins of several depths; back, each way counts. */
    private static void reversesOneTooMuch() {
        NotationPress x = press(steps(SUM, 7, 3, 1, SUM, 3, 2, 1, SUM, 6, 1, 1, SUM, 2, 7, 1, SUM, 1, 0, 1, JOIN, 5, 6, 4,
            SUM, 0, 6, 1));
        int[][] pairs = {{0, 0}, {0, 1}, {2, 2}, {2, 3}};
        for (int i = 0; i < 4; i++) Due.answer("compose()", x.compose(pairs[i][0], pairs[i][1]), 1 + i);
        Due.answer("60 parts back", x.reverse(4), 5);
        Due.answer("60 parts back", x.parts(5), 60);
        NotationPress y = press(steps(SUM, 7, 3, 1, JOIN, 5, 1, 3, SUM, 3, 6, 1, SUM, 0, 7, 1, JOIN, 4, 4, 0, SUM, 2, 5, 1,
            SLOT, 6, 2, 0));
        for (int i = 0; i < 4; i++) Due.answer("compose()", y.compose(i, i == 0 ? 0 : i == 1 ? 0 : 1), 1 + i);
        Due.answer("its parts", y.parts(4), 34);
        Due.answer("61 parts back", y.reverse(4), -1);
        Due.index("none is made", () -> y.parts(5));
        y.change(SUM, 3, 3, -4);
        Due.answer("the next one", y.upgrade(), 5);
        Due.answer("has nothing of it", y.parts(5), 2);
        y.set(3, 0, 10);
        tells("the next one", y, 5, NOTHING, NOTHING, NOTHING, 6);
    }

    private static void quotientsAndRests() {
        NotationPress x = press(steps(MULTIPLE, 0, 0, 9), steps(JOIN, 0, 1, 2));
        x.reverse(0);
        x.reverse(1);
        int[] values = {0, 1, 8, 9, 99, 100, -1, -9, -10, -100, -101, MOST, -MOST};
        for (int value : values) {
            x.set(0, 0, value);
            Due.answer(value + " by 9", x.upgraded(2, 0), Math.floorDiv(value, 9));
            Due.answer(value + " by 100", x.upgraded(3, 1), Math.floorDiv(value, 100));
            Due.answer("the rest of " + value, x.upgraded(3, 2), Math.floorMod(value, 100));
        }
        x.set(0, 0, NOTHING);
        tells("no value", x, 2);
        tells("no value", x, 3);
        Due.answer("a quotient in a join", x.compose(2, 1), 4);
        Due.answer("has no value, as slots are missing", x.parts(4), 0);
        Due.answer("a join of a quotient and a rest", x.compose(3, 1), 5);
        Due.answer("its parts", x.parts(5), 5);
        x.set(0, 0, -1234);
        Due.answer("it is whole again", x.upgraded(5, 0), -1234);
    }

    private static void eightUpgrades() {
        NotationPress x = new NotationPress();
        for (int i = 0; i < 8; i++) {
            x.change(PLAIN, i, i, 0);
            Due.answer("upgrade " + i, x.upgrade(), i);
        }
        x.change(PLAIN, 0, 77, 0);
        Due.state("upgrade()", () -> x.upgrade());
        Due.state("compose()", () -> x.compose(0, 7));
        Due.state("reverse()", () -> x.reverse(7));
        Due.index("compose() of none", () -> x.compose(0, 8));
        Due.index("reverse() of none", () -> x.reverse(8));
        Due.answer("the draft stays", x.change(PLAIN, 1, 77, 0), 2);
        for (int i = 0; i < 8; i++) Due.answer("upgraded(" + i + ")", x.upgraded(i, i), i);
    }

    private static void upgradesThrow() {
        NotationPress x = press(steps(SLOT, 0, 0, 0));
        for (int no : new int[] {-1, 1, 8, NOTHING, MOST}) {
            Due.index("compose(0, " + no + ")", () -> x.compose(0, no));
            Due.index("compose(" + no + ", 0)", () -> x.compose(no, 0));
            Due.index("reverse(" + no + ")", () -> x.reverse(no));
            Due.index("parts(" + no + ")", () -> x.parts(no));
            Due.index("upgraded(" + no + ", 0)", () -> x.upgraded(no, 0));
            Due.index("upgraded(0, slot)", () -> x.upgraded(0, no == 1 ? 9 : no));
        }
        Due.answer("none is made", x.upgrade(), 1);
    }
}
