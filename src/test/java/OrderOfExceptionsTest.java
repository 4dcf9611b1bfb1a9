/**
 * If several exceptions apply, IndexOutOfBoundsException goes first, then IllegalArgumentException, and
 * IllegalStateException last: each call with each two of its exceptions, and with all three.
 */
public final class OrderOfExceptionsTest {
    private static final NotationPress FULL = Scenes.full();
    private static final NotationPress CLOSED = Scenes.fullAndClosed();
    private static final NotationPress SOME = Scenes.some();

    public static void main(String[] args) {
        items();
        descriptions();
        constraints();
        constraintsByKind();
        samples();
        typing();
        printing();
        steps();
        columns();
        changes();
        upgrades();
        minusOneOnlyWhereNothingIsThrown();
        indexesAlone();
        Due.end();
    }

    private static void items() {
        NotationPress x = FULL;
        Due.state("item 15", () -> x.item(0, 0, 1, 0));
        for (int kind : new int[] {0, 1, 2, 3, 6, 7, 8, 9}) {
            int b = kind == 2 ? 33 : kind == 6 || kind == 9 ? 0 : 1;
            Due.state("item 15 of kind " + kind, () -> x.item(kind, 0, b, 0));
            Due.index("no slot, item 15", () -> x.item(kind, 8, b, 0));
            Due.argument("b wrong, item 15", () -> x.item(kind, 0, 127, 0));
            Due.argument("c wrong, item 15", () -> x.item(kind, 0, b, 100));
            Due.index("no slot, b wrong, item 15", () -> x.item(kind, -1, 127, 0));
            Due.index("no slot, c wrong, item 15", () -> x.item(kind, -1, b, 100));
            Due.index("no slot, b wrong", () -> SOME.item(kind, 8, 127, 0));
            Due.index("no slot, c wrong", () -> SOME.item(kind, 8, b, 100));
        }
        for (int kind : new int[] {-1, 4, 5, 10}) {
            Due.argument("no slot is told by kind " + kind, () -> SOME.item(kind, 8, 0, 0));
            Due.argument("no slot is told by kind " + kind + ", item 15", () -> x.item(kind, 8, 0, 0));
        }
    }

    private static void descriptions() {
        Due.state("description 7", () -> FULL.description());
        NotationPress x = Scenes.full();
        x.dropItems();
        Due.state("description 7 of an empty draft", () -> x.description());
        x.item(7, 0, 1, 0);
        Due.state("description 7 of a draft that is none", () -> x.description());
    }

    private static void constraints() {
        NotationPress x = FULL;
        Due.state("constraint 9", () -> x.constrain(0, 1, 0, 0, 0, 1));
        Due.argument("message 0, constraint 9", () -> x.constrain(0, 1, 0, 0, 0, 0));
        Due.argument("kind 4, constraint 9", () -> x.constrain(0, 4, 0, 0, 0, 1));
        Due.argument("b 1000, constraint 9", () -> x.constrain(0, 1, 0, 1000, 0, 1));
        Due.argument("c 1, constraint 9", () -> x.constrain(0, 3, 0, 1, 1, 1));
        Due.index("no slot, constraint 9", () -> x.constrain(0, 1, 8, 0, 0, 1));
        Due.index("no slot, message 100, constraint 9", () -> x.constrain(0, 1, -1, 0, 0, 100));
        Due.index("no description, message 0", () -> x.constrain(6, 1, 0, 0, 0, 0));
        Due.index("no description, kind 4", () -> x.constrain(-1, 4, 0, 0, 0, 1));
        Due.index("no slot, message 0", () -> SOME.constrain(0, 1, 8, 0, 0, 0));
        Due.index("no slot, equal 1000", () -> SOME.constrain(0, 1, 8, 1000, 0, 1));
        Due.index("no slot, by 0", () -> SOME.constrain(0, 3, 8, 0, 0, 1));
        Due.index("no slot, c 1", () -> SOME.constrain(0, 3, 8, 1, 1, 1));
    }

    /** A word in the one slot, and no slot at all in another: the latter goes first, whichever it is. */
    private static void constraintsByKind() {
        NotationPress x = SOME;
        for (int no : new int[] {-1, 8}) {
            Due.index("less: a word, no slot", () -> x.constrain(0, 0, 1, no, 0, 1));
            Due.index("less: no slot, a word", () -> x.constrain(0, 0, no, 1, 0, 1));
            Due.index("added: a word, no slot", () -> x.constrain(0, 2, 1, no, 0, 1));
            Due.index("added: a word, a word, no slot", () -> x.constrain(0, 2, 1, 1, no, 1));
            Due.index("added: no slot, in a loop", () -> x.constrain(0, 2, no, 3, 3, 1));
            Due.argument("less: c is no slot", () -> x.constrain(0, 0, 0, 2, no, 1));
            Due.argument("equal: c is no slot", () -> x.constrain(0, 1, 0, 8, no, 1));
        }
        Due.argument("a word alone", () -> x.constrain(0, 0, 1, 0, 0, 1));
        Due.argument("in a loop alone", () -> x.constrain(0, 2, 0, 0, 3, 1));
        Due.argument("by 8 is no slot, but a number; c 1", () -> x.constrain(0, 3, 0, 8, 1, 1));
    }

    private static void samples() {
        Due.index("no description, seed -1", () -> SOME.sample(4, -1) ? 1 : 0);
        Due.index("no description, seed 1000001", () -> SOME.sample(-1, 1000001) ? 1 : 0);
        Due.argument("seed -1, no sample", () -> SOME.sample(1, -1) ? 1 : 0);
        Due.argument("seed 1000001, no sample", () -> SOME.sample(1, 1000001) ? 1 : 0);
    }

    private static void typing() {
        for (NotationPress x : new NotationPress[] {FULL, CLOSED}) {
            Due.state("no more", () -> x.type(0, 'a'));
            Due.argument("no character, no more", () -> x.type(0, 0));
            Due.argument("another character, no more", () -> x.type(0, 9));
            Due.index("no file, no more", () -> x.type(2, 'a'));
            Due.index("no file, no character", () -> x.type(2, 0));
            Due.index("no file, another character", () -> x.type(-1, 127));
        }
        Due.argument("another character, closed", () -> SOME.type(1, 'a' | 31 << 8));
        Due.index("no file, another character", () -> SOME.type(2, 'a' | 31 << 8));
        Due.answer("one unit more", Scenes.full().type(1, 'a'), 300);
    }

    private static void printing() {
        Due.state("no more", () -> FULL.print(2, 0));
        Due.index("no description, no more", () -> FULL.print(6, 0));
        Due.index("no file", () -> FULL.print(2, 2));
        Due.index("no description, closed", () -> CLOSED.print(6, 0));
        Due.index("no file, not to be printed", () -> SOME.print(3, 2));
        Due.index("no description, no file", () -> SOME.print(4, 2));
        Due.state("not to be printed, closed", () -> SOME.print(3, 1));
    }

    private static void steps() {
        Due.state("row 25", () -> FULL.step(0));
        Due.state("row 25, closed", () -> CLOSED.step(0));
        Due.index("no file", () -> FULL.step(2));
        Due.state("no stream", () -> FULL.step(1));
    }

    private static void columns() {
        NotationPress x = FULL;
        Due.state("column 7", () -> x.column(0, 0, 0, 1));
        for (int kind : new int[] {-1, 4}) {
            Due.argument("kind " + kind + ", column 7", () -> x.column(0, kind, 0, 1));
            Due.index("no slot, kind " + kind + ", column 7", () -> x.column(0, kind, 8, 1));
            Due.index("no file, kind " + kind, () -> SOME.column(2, kind, 0, 1));
        }
        for (int window : new int[] {0, 6}) {
            Due.argument("window " + window + ", column 7", () -> x.column(0, 0, 0, window));
            Due.index("no file, window " + window + ", column 7", () -> x.column(-1, 0, 0, window));
            Due.index("no slot, window " + window, () -> SOME.column(0, 3, 8, window));
        }
        Due.index("no file, column 7", () -> x.column(2, 0, 0, 1));
        Due.index("no slot, column 7", () -> x.column(0, 0, -1, 1));
    }

    private static void changes() {
        NotationPress x = SOME;
        for (int kind : new int[] {-1, 0, 1, 2, 3, 4, 5}) {
            Due.index("to no slot, kind " + kind + ", b wrong", () -> x.change(kind, 8, 0, 1000));
        }
        Due.index("to no slot, kind 1, a wrong", () -> x.change(1, -1, 1000, 0));
        for (int kind : new int[] {0, 2, 3, 4}) {
            Due.index("of no slot, kind " + kind + ", b wrong", () -> x.change(kind, 0, 8, -1000));
        }
        Due.index("a join with no slot", () -> x.change(4, 0, 0, 8));
        Due.argument("a number that is no slot", () -> x.change(1, 0, 1000, 0));
        Due.argument("a number, b 8", () -> x.change(1, 0, 8, 8));
        Due.argument("a slot, b 8", () -> x.change(0, 0, 7, 8));
    }

    private static void upgrades() {
        Due.state("upgrade 9", () -> FULL.upgrade());
        Due.state("compose()", () -> FULL.compose(0, 7));
        Due.index("compose() with none", () -> FULL.compose(0, 8));
        Due.index("compose() of none", () -> FULL.compose(-1, 0));
        Due.state("reverse()", () -> FULL.reverse(7));
        Due.index("reverse() of none", () -> FULL.reverse(8));
    }

    /** With eight upgrades there is no -1 any more, though one cannot be reversed, and another one has too many parts. */
    private static void minusOneOnlyWhereNothingIsThrown() {
        NotationPress x = Scenes.some();
        Due.answer("120 parts", x.compose(1, 0), -1);
        Due.answer("a quotient", x.reverse(3), -1);
        for (int i = 4; i < 8; i++) Due.answer("upgrade()", x.upgrade(), i);
        Due.state("120 parts", () -> x.compose(1, 0));
        Due.state("a quotient", () -> x.reverse(3));
        Due.index("none", () -> x.compose(8, 0));
        Due.index("none", () -> x.reverse(8));
    }

    /** Where two things do not exist, or the one while the other does. */
    private static void indexesAlone() {
        NotationPress x = SOME;
        Due.index("set(), no slot, no round", () -> x.set(8, 3, 0));
        Due.index("get(), no slot, no round", () -> x.get(-1, -1));
        Due.index("unit(), no file, no place", () -> x.unit(2, 99));
        Due.index("readings(), no description, no file, no place", () -> x.readings(4, 2, 99));
        Due.index("readingsAnew(), no description, no file, no place", () -> x.readingsAnew(4, 2, 99));
        Due.index("read(), none of all", () -> x.read(4, 2, 99, 99));
        Due.index("stream(), neither", () -> x.stream(2, 4));
        Due.index("skipped(), neither", () -> x.skipped(2, 99));
        Due.index("cell(), none of all", () -> x.cell(2, 99, 8, 3));
        Due.index("take(), neither", () -> x.take(2, 99));
        Due.index("derived(), neither", () -> x.derived(6, 99));
        Due.index("derivedByBatch(), neither", () -> x.derivedByBatch(6, 99));
        Due.index("upgraded(), neither", () -> x.upgraded(8, 8));
        Due.index("find(), none of all", () -> x.find(2, 8, 0, -1));
        Due.index("findAnew(), none of all", () -> x.findAnew(2, 8, 0, -1));
    }
}
