/** Promises 1 to 6: a new object, item, dropItems, description, sure, constrain. */
public final class DescriptionsTest {
    private static final int FAR = 1000;

    public static void main(String[] args) {
        newObject();
        itemsInRange();
        itemsOutOfRange();
        fullDraft();
        dropItems();
        whatIsADescription();
        whatIsNone();
        sixDescriptions();
        sure();
        constrain();
        constrainThrows();
        eightConstraints();
        Due.end();
    }

    private static void newObject() {
        NotationPress x = new NotationPress();
        Notes.isEmpty("a new object", x);
        Due.index("sure(0)", () -> x.sure(0));
        Due.answer("dropItems()", x.dropItems(), 0);
        for (int f = 0; f < 2; f++) {
            int file = f;
            Due.index("unit(0)", () -> x.unit(file, 0));
            Due.index("cell(0)", () -> x.cell(file, 0, 0, 0));
            Due.index("skipped(0)", () -> x.skipped(file, 0));
            Due.answer("progress()", x.progress(file), 0);
            Due.state("step()", () -> x.step(file));
            Due.answer("find()", x.find(file, 0, 0, 0), -1);
            Due.answer("findAnew()", x.findAnew(file, 0, 0, 0), -1);
            Due.answer("type()", x.type(file, 'a'), 1);
            Due.answer("close()", x.close(file) ? 1 : 0, 1);
        }
        Due.answer("compare()", x.compare(0), 0);
        Due.index("parts(0)", () -> x.parts(0));
        Due.index("derived(0)", () -> x.derived(0, 0));
        Due.answer("change()", x.change(1, 0, 0, 0), 1);
    }

    /** Kind by kind: the least and the most of a, b and c; below and above are out of range. */
    private static final int[][] RANGES = {
        {0, 0, 7, 1, 8, 0, 8}, {1, 0, 7, 1, 9, 0, 2}, {2, 0, 7, 33, 126, 0, 0}, {3, 0, 7, 1, 8, 0, 0},
        {4, 0, 0, 0, 0, 0, 0}, {5, 32, 126, 0, 0, 0, 0}, {6, 0, 7, 0, 0, 0, 0}, {7, 0, 7, 1, 3, 0, 0},
        {8, 0, 7, 1, 3, 0, 99}, {9, 0, 7, 0, 0, 0, 0}};

    private static void itemsInRange() {
        for (int[] r : RANGES) {
            NotationPress x = new NotationPress();
            Due.answer("item(" + r[0] + ") at least", x.item(r[0], r[1], r[3], r[5]), 1);
            Due.answer("item(" + r[0] + ") at most", x.item(r[0], r[2], r[4], r[6]), 2);
        }
        NotationPress x = new NotationPress();
        int[] forms = {0, 1, 2, 3, 5, 6, 8};
        for (int i = 0; i < forms.length; i++) Due.answer("item(0, ..)", x.item(0, 0, 3, forms[i]), i + 1);
        Due.argument("marks with the fill 0", () -> x.item(0, 0, 3, 4));
        Due.argument("other marks with the fill 0", () -> x.item(0, 0, 3, 7));
        Due.answer("dropItems()", x.dropItems(), forms.length);
    }

    private static void itemsOutOfRange() {
        NotationPress x = new NotationPress();
        for (int[] r : RANGES) {
            boolean slot = r[0] != 4 && r[0] != 5;
            for (int a : new int[] {r[1] - 1, r[2] + 1, -FAR, FAR, Integer.MIN_VALUE, Integer.MAX_VALUE}) {
                String call = "item(" + r[0] + ", " + a + ")";
                if (slot) Due.index(call, () -> x.item(r[0], a, r[3], r[5]));
                else Due.argument(call, () -> x.item(r[0], a, r[3], r[5]));
                if (slot) Due.index(call + ", b wrong too", () -> x.item(r[0], a, FAR, r[5]));
            }
            for (int b : new int[] {r[3] - 1, r[4] + 1, Integer.MIN_VALUE, Integer.MAX_VALUE}) {
                Due.argument("item(" + r[0] + ", b " + b + ")", () -> x.item(r[0], r[1], b, r[5]));
            }
            for (int c : new int[] {r[5] - 1, r[6] + 1, Integer.MIN_VALUE, Integer.MAX_VALUE}) {
                Due.argument("item(" + r[0] + ", c " + c + ")", () -> x.item(r[0], r[1], r[3], c));
            }
        }
        Due.argument("item(-1)", () -> x.item(-1, 0, 0, 0));
        Due.argument("item(10)", () -> x.item(10, 0, 0, 0));
        Due.argument("item(10), a no slot", () -> x.item(10, 8, 0, 0));
        Due.answer("dropItems() behind what was thrown", x.dropItems(), 0);
    }

    private static void fullDraft() {
        NotationPress x = new NotationPress();
        for (int i = 1; i <= 14; i++) Due.answer("item " + i, x.item(5, 32 + i, 0, 0), i);
        Due.state("item 15", () -> x.item(5, 32, 0, 0));
        Due.argument("item 15, out of range", () -> x.item(5, 31, 0, 0));
        Due.index("item 15, no slot", () -> x.item(0, 8, 0, 0));
        Due.answer("description() of 14", x.description(), 0);
        Due.answer("item() behind that", x.item(5, 65, 0, 0), 1);
        Notes.prints("!\"#$%&'()*+,-.", x, 0);
    }

    private static void dropItems() {
        NotationPress x = new NotationPress();
        Notes.put(x, Notes.items(5, 65, 0, 0, 5, 66, 0, 0));
        Due.answer("dropItems()", x.dropItems(), 2);
        Due.answer("dropItems() again", x.dropItems(), 0);
        Due.answer("item()", x.item(5, 67, 0, 0), 1);
        Due.answer("description()", x.description(), 0);
        Notes.prints("C", x, 0);
    }

    private static void isOne(String what, int... fours) {
        NotationPress x = new NotationPress();
        Due.answer(what, Notes.describe(x, Notes.items(fours)), 0);
        Due.answer(what + ": the draft behind it", x.dropItems(), 0);
    }

    private static void isNone(String what, int... fours) {
        NotationPress x = new NotationPress();
        Due.answer(what, Notes.describe(x, Notes.items(fours)), -1);
        Due.answer(what + ": the draft behind it", x.dropItems(), fours.length / 4);
        Due.index(what + ": sure(0)", () -> x.sure(0));
    }

    private static void whatIsADescription() {
        isOne("a loop", 6, 0, 0, 0, 7, 0, 3, 0, 0, 1, 1, 0, 1, 2, 1, 0, 3, 3, 1, 0);
        isOne("a loop of a count", 6, 0, 0, 0, 7, 0, 1, 0, 6, 1, 0, 0);
        isOne("two loops of one count", 6, 0, 0, 0, 7, 0, 1, 0, 4, 0, 0, 0, 7, 0, 1, 0, 4, 0, 0, 0);
        isOne("a loop behind a case", 6, 0, 0, 0, 8, 0, 1, 0, 4, 0, 0, 0, 7, 0, 1, 0, 4, 0, 0, 0);
        isOne("a loop of a count in a case", 3, 1, 1, 0, 8, 1, 1, 1, 6, 0, 0, 0, 7, 0, 1, 0, 4, 0, 0, 0);
        isOne("a case by a number", 0, 0, 1, 0, 8, 0, 1, 99, 4, 0, 0, 0);
        isOne("a case by bits", 3, 0, 1, 0, 8, 0, 1, 1, 4, 0, 0, 0);
        isOne("a case by a count", 6, 0, 0, 0, 8, 0, 3, 0, 4, 0, 0, 0, 5, 65, 0, 0, 9, 0, 0, 0);
        isOne("a case by a number in a case", 3, 0, 1, 0, 8, 0, 1, 1, 0, 1, 1, 0, 8, 1, 1, 1, 4, 0, 0, 0);
        isOne("a back with no item", 9, 7, 0, 0);
        isOne("backs to one slot", 0, 0, 1, 0, 9, 0, 0, 0, 9, 0, 0, 0);
    }

    private static void whatIsNone() {
        isNone("an empty draft");
        isNone("one slot twice", 0, 0, 1, 0, 3, 0, 1, 0);
        isNone("one slot twice, in a loop", 6, 0, 0, 0, 7, 0, 1, 0, 2, 0, 33, 0);
        isNone("a loop with no items", 6, 0, 0, 0, 7, 0, 1, 0);
        isNone("a loop with one too few", 6, 0, 0, 0, 7, 0, 3, 0, 4, 0, 0, 0, 4, 0, 0, 0);
        isNone("a case with one too few", 6, 0, 0, 0, 8, 0, 2, 0, 4, 0, 0, 0);
        isNone("a loop in a loop", 6, 0, 0, 0, 7, 0, 2, 0, 7, 0, 1, 0, 4, 0, 0, 0);
        isNone("a case in a loop", 6, 0, 0, 0, 7, 0, 2, 0, 8, 0, 1, 0, 4, 0, 0, 0);
        isNone("a loop in a case", 6, 0, 0, 0, 8, 0, 2, 0, 7, 0, 1, 0, 4, 0, 0, 0);
        isNone("a case in a case", 6, 0, 0, 0, 8, 0, 2, 0, 8, 0, 1, 0, 4, 0, 0, 0);
        isNone("a case last in a loop", 6, 0, 0, 0, 7, 0, 2, 0, 4, 0, 0, 0, 8, 0, 1, 0, 4, 0, 0, 0);
        isNone("a loop last in a case", 6, 0, 0, 0, 8, 0, 3, 0, 4, 0, 0, 0, 4, 0, 0, 0, 7, 0, 1, 0, 4, 0, 0, 0);
        isNone("a loop by nothing", 7, 0, 1, 0, 4, 0, 0, 0);
        isNone("a loop by a count behind it", 7, 0, 1, 0, 4, 0, 0, 0, 6, 0, 0, 0);
        isNone("a loop by its own count", 7, 0, 1, 0, 6, 0, 0, 0);
        isNone("a loop by a number", 0, 0, 1, 0, 7, 0, 1, 0, 4, 0, 0, 0);
        isNone("a loop by bits", 3, 0, 1, 0, 7, 0, 1, 0, 4, 0, 0, 0);
        isNone("a loop by a count in a loop", 6, 0, 0, 0, 7, 0, 1, 0, 6, 1, 0, 0, 7, 1, 1, 0, 4, 0, 0, 0);
        isNone("a case by a count in a loop", 6, 0, 0, 0, 7, 0, 1, 0, 6, 1, 0, 0, 8, 1, 1, 0, 4, 0, 0, 0);
        isNone("a case by a word", 1, 0, 1, 0, 8, 0, 1, 0, 4, 0, 0, 0);
        isNone("a case by an open", 2, 0, 33, 0, 8, 0, 1, 0, 4, 0, 0, 0);
        isNone("a case by a number behind it", 8, 0, 1, 0, 4, 0, 0, 0, 0, 0, 1, 0);
        isNone("a case by a back", 9, 0, 0, 0, 8, 0, 1, 0, 4, 0, 0, 0);
    }

    private static void sixDescriptions() {
        NotationPress x = new NotationPress();
        for (int i = 0; i < 6; i++) Due.answer("description " + i, Notes.describe(x, Notes.items(5, 65 + i, 0, 0)), i);
        Due.state("description(), the draft empty", () -> x.description());
        Notes.put(x, Notes.items(7, 0, 1, 0));
        Due.state("description(), the draft none", () -> x.description());
        Due.answer("the draft behind it", x.dropItems(), 1);
        Due.answer("sure(5)", x.sure(5), -1);
        Due.index("sure(6)", () -> x.sure(6));
        Notes.prints("A", x, 0);
        Notes.prints("F", x, 5);
    }

    private static void sure() {
        NotationPress x = Notes.press(
            Notes.items(0, 0, 8, 0, 1, 1, 9, 0, 1, 2, 9, 1, 2, 3, 96, 0, 2, 4, 123, 0, 5, 'a', 0, 0),
            Notes.items(1, 0, 1, 2, 2, 1, 'a', 0),
            Notes.items(5, 65, 0, 0, 2, 1, 'a', 0, 1, 0, 1, 2),
            Notes.items(6, 0, 0, 0, 7, 0, 2, 0, 4, 0, 0, 0, 2, 1, 'z', 0));
        Due.answer("sure(0)", x.sure(0), -1);
        Due.answer("sure(1)", x.sure(1), 0);
        Due.answer("sure(2)", x.sure(2), 1);
        Due.answer("sure(3)", x.sure(3), 3);
        Due.index("sure(4)", () -> x.sure(4));
        Due.index("sure(-1)", () -> x.sure(-1));
        Due.index("sure(the least)", () -> x.sure(Integer.MIN_VALUE));
    }

    /** Slots 0 number, 1 bits, 2 count, 3 word, 4 open, 5 a number in a loop, 6 a number in a case; 7 is free. */
    private static NotationPress constrained() {
        return Notes.press(Notes.items(0, 0, 3, 0, 3, 1, 3, 0, 6, 2, 0, 0, 1, 3, 2, 0, 2, 4, 33, 0,
            7, 2, 1, 0, 0, 5, 1, 0, 8, 2, 1, 1, 0, 6, 1, 0));
    }

    private static void constrain() {
        NotationPress x = constrained();
        Due.answer("less", x.constrain(0, 0, 0, 1, 0, 1), 1);
        Due.answer("of a case", x.constrain(0, 0, 6, 2, 0, 99), 2);
        Due.answer("of a slot without an item", x.constrain(0, 2, 7, 7, 7, 3), 3);
        Due.answer("at least", x.constrain(0, 1, 0, 0, 0, 1), 4);
        Due.answer("at most", x.constrain(0, 1, 0, 999, 0, 1), 5);
        Due.answer("by 1", x.constrain(0, 3, 0, 1, 0, 1), 6);
        Due.answer("by 99", x.constrain(0, 3, 0, 99, 0, 1), 7);
    }

    private static void constrainThrows() {
        NotationPress x = constrained();
        for (int d : new int[] {-1, 1, 6, Integer.MAX_VALUE}) {
            Due.index("constrain(" + d + ")", () -> x.constrain(d, 9, 0, 0, 0, 0));
        }
        for (int slot : new int[] {-1, 8, Integer.MIN_VALUE}) {
            Due.index("less, a", () -> x.constrain(0, 0, slot, 0, 1, 0));
            Due.index("less, b", () -> x.constrain(0, 0, 0, slot, 1, 0));
            Due.index("equal, a", () -> x.constrain(0, 1, slot, -1, 1, 0));
            Due.index("added, b", () -> x.constrain(0, 2, 3, slot, 0, 1));
            Due.index("added, c", () -> x.constrain(0, 2, 5, 0, slot, 1));
            Due.index("divisible, a", () -> x.constrain(0, 3, slot, 0, 0, 1));
            Due.index("no kind, a", () -> x.constrain(0, 4, slot, 0, 0, 1));
            Due.argument("no kind, b", () -> x.constrain(0, 4, 0, slot, slot, 1));
            Due.argument("less, c", () -> x.constrain(0, 0, 0, 1, slot, 1));
        }
        for (int slot : new int[] {3, 4, 5}) {
            Due.argument("less, unfit a", () -> x.constrain(0, 0, slot, 0, 0, 1));
            Due.argument("less, unfit b", () -> x.constrain(0, 0, 0, slot, 0, 1));
            Due.argument("equal, unfit a", () -> x.constrain(0, 1, slot, 0, 0, 1));
            Due.argument("added, unfit a", () -> x.constrain(0, 2, slot, 0, 0, 1));
            Due.argument("added, unfit b", () -> x.constrain(0, 2, 0, slot, 0, 1));
            Due.argument("added, unfit c", () -> x.constrain(0, 2, 0, 0, slot, 1));
            Due.argument("divisible, unfit a", () -> x.constrain(0, 3, slot, 1, 0, 1));
            Due.answer("equal to a number that is no slot", constrained().constrain(0, 1, 0, slot, 0, 1), 1);
        }
        Due.argument("kind -1", () -> x.constrain(0, -1, 0, 0, 0, 1));
        Due.argument("kind 4", () -> x.constrain(0, 4, 0, 0, 0, 1));
        Due.argument("equal -1", () -> x.constrain(0, 1, 0, -1, 0, 1));
        Due.argument("equal 1000", () -> x.constrain(0, 1, 0, 1000, 0, 1));
        Due.argument("equal, c", () -> x.constrain(0, 1, 0, 1, 1, 1));
        Due.argument("by 0", () -> x.constrain(0, 3, 0, 0, 0, 1));
        Due.argument("by 100", () -> x.constrain(0, 3, 0, 100, 0, 1));
        Due.argument("by 1, c", () -> x.constrain(0, 3, 0, 1, 1, 1));
        Due.argument("less, c 1", () -> x.constrain(0, 0, 0, 1, 1, 1));
        Due.argument("message 0", () -> x.constrain(0, 1, 0, 1, 0, 0));
        Due.argument("message 100", () -> x.constrain(0, 1, 0, 1, 0, 100));
        Due.answer("what was thrown changes nothing", x.constrain(0, 1, 0, 1, 0, 5), 1);
        x.set(0, 0, 1);
        Due.answer("message()", x.message(0), 0);
    }

    private static void eightConstraints() {
        NotationPress x = Notes.press(Notes.items(0, 0, 1, 0), Notes.items(0, 0, 1, 0));
        for (int i = 1; i <= 8; i++) Due.answer("constraint " + i, x.constrain(0, 1, 0, 1, 0, i), i);
        Due.state("constraint 9", () -> x.constrain(0, 1, 0, 1, 0, 9));
        Due.argument("constraint 9, out of range", () -> x.constrain(0, 1, 0, 1, 0, 0));
        Due.index("constraint 9, no slot", () -> x.constrain(0, 1, 8, 1, 0, 0));
        Due.answer("of another description", x.constrain(1, 1, 0, 1, 0, 9), 1);
    }
}
