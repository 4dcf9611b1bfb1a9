/**
 * A call that throws changes nothing, nor does one that tells -1 or false where the document says so, nor one that only
 * tells: an object that was asked it answers all other calls as one that was not.
 */
public final class UnchangedTest {
    private static final int NOTHING = NotationPress.NOTHING;
    private static final int MOST = Integer.MAX_VALUE;
    private static final String INDEX = "throws.IndexOutOfBoundsException";
    private static final String ARGUMENT = "throws.IllegalArgumentException";
    private static final String STATE = "throws.IllegalStateException";

    interface Asked {
        long of(NotationPress x);
    }

    private static Scenes.Scene scene;
    private static String before;

    public static void main(String[] args) {
        in(Scenes::fresh);
        nothingThere();
        in(Scenes::some);
        descriptions();
        records();
        files();
        streams();
        columns();
        upgrades();
        finding();
        callsThatOnlyTell();
        in(Scenes::halfADraft);
        unchanged("no description", "-1", x -> x.description());
        in(Scenes::full);
        allIsFull();
        in(Scenes::fullAndClosed);
        allIsClosed();
        theOnesThatAreTakenChange();
        Due.end();
    }

    private static void in(Scenes.Scene made) {
        scene = made;
        before = shown(made.make());
        Due.text("what is shown is the same each time", shown(made.make()), before);
    }

    private static void unchanged(String call, String due, Asked asked) {
        NotationPress x = scene.make();
        Due.text(call, Due.told(() -> asked.of(x)), due);
        Due.text(call + " changes nothing", shown(x), before);
    }

    /** What an object shows, in at most 350 calls: first those that only tell, then those that change something. */
    private static String shown(NotationPress x) {
        StringBuilder all = new StringBuilder();
        for (int i = 0; i < 24; i++) tell(all, x.get(i / 3, i % 3));
        for (int file = 0; file < 2; file++) {
            showText(all, x, file);
            showTable(all, x, file);
        }
        for (int d = 0; d < 7; d++) {
            int description = d;
            ask(all, () -> x.sure(description));
            ask(all, () -> x.message(description));
            ask(all, () -> x.readings(description, 0, 0));
        }
        for (int c = 0; c < 6; c++) {
            int column = c;
            ask(all, () -> x.derived(column, 1));
            ask(all, () -> x.derivedByBatch(column, 2));
        }
        showUpgrades(all, x);
        for (int slot = 0; slot < 5; slot++) tell(all, x.compare(slot));
        showByChanging(all, x);
        return all.toString();
    }

    private static void tell(StringBuilder all, long answer) {
        all.append(answer).append(' ');
    }

    private static void ask(StringBuilder all, Due.Call call) {
        all.append(Due.told(call)).append(' ');
    }

    private static void showText(StringBuilder all, NotationPress x, int file) {
        for (int place = 0; place < 300; place += place < 20 || place > 295 ? 1 : 23) {
            int at = place;
            ask(all, () -> x.unit(file, at));
        }
    }

    private static void showTable(StringBuilder all, NotationPress x, int file) {
        tell(all, x.progress(file));
        for (int entry = 0; entry < 3; entry++) {
            int number = entry;
            ask(all, () -> x.skipped(file, number));
        }
        for (int row : new int[] {0, 1, 2, 23, 24}) {
            for (int slot = 0; slot < 5; slot += 2) ask(all, cell(x, file, row, slot));
            ask(all, cell(x, file, row, 3));
        }
        for (int place = 0; place < 2; place++) {
            tell(all, x.find(file, 0, 4, place));
            tell(all, x.findAnew(file, 2, 0, place));
        }
    }

    private static Due.Call cell(NotationPress x, int file, int row, int slot) {
        return () -> x.cell(file, row, slot, slot == 3 ? 1 : 0);
    }

    private static void showUpgrades(StringBuilder all, NotationPress x) {
        for (int u = 0; u < 9; u++) {
            int upgrade = u;
            ask(all, () -> x.parts(upgrade));
            for (int slot = 0; slot < 6; slot += 2) {
                int to = slot;
                ask(all, () -> x.upgraded(upgrade, to));
            }
        }
    }

    /** The drafts, and what comes next where things are made. */
    private static void showByChanging(StringBuilder all, NotationPress x) {
        ask(all, () -> x.change(1, 7, 7, 0));
        ask(all, () -> x.upgrade());
        for (int slot = 0; slot < 8; slot++) {
            int to = slot;
            ask(all, () -> x.upgraded(0, to));
            ask(all, () -> x.upgraded(4, to));
        }
        ask(all, () -> x.column(0, 1, 0, 5));
        ask(all, () -> x.constrain(0, 1, 7, 3, 0, 5));
        ask(all, () -> x.item(5, '+', 0, 0));
        ask(all, () -> x.description());
        ask(all, () -> x.print(4, 0));
        ask(all, () -> x.dropItems());
        for (int place = 30; place < 36; place++) {
            int at = place;
            ask(all, () -> x.unit(0, at));
        }
        for (int file = 0; file < 2; file++) {
            int to = file;
            ask(all, () -> x.type(to, Notes.four("a\n")));
            ask(all, () -> x.step(to));
            ask(all, () -> x.progress(to));
            ask(all, () -> x.close(to) ? 1 : 0);
            ask(all, () -> x.stream(to, 0));
        }
        ask(all, () -> x.sample(0, 5) ? 1 : 0);
        for (int slot = 0; slot < 8; slot++) tell(all, x.get(slot, 0));
    }

    private static void nothingThere() {
        unchanged("description() of an empty draft", "-1", x -> x.description());
        unchanged("dropItems() of an empty draft", "0", x -> x.dropItems());
        unchanged("step() without a stream", STATE, x -> x.step(0));
        unchanged("progress() without a stream", "0", x -> x.progress(0));
        unchanged("stream() without a description", INDEX, x -> x.stream(0, 0));
        unchanged("print() without a description", INDEX, x -> x.print(0, 0));
        unchanged("sample() without a description", INDEX, x -> x.sample(0, 0) ? 1 : 0);
        unchanged("constrain() without a description", INDEX, x -> x.constrain(0, 1, 0, 0, 0, 1));
        unchanged("compose() without an upgrade", INDEX, x -> x.compose(0, 0));
        unchanged("reverse() without an upgrade", INDEX, x -> x.reverse(0));
        unchanged("take() without a row", INDEX, x -> x.take(0, 0));
        unchanged("read() without a description", INDEX, x -> x.read(0, 0, 0, 0));
    }

    private static void descriptions() {
        for (int kind = 0; kind < 10; kind++) {
            int k = kind;
            boolean slot = kind != 4 && kind != 5;
            unchanged("item(" + k + "), a 8", slot ? INDEX : ARGUMENT, x -> x.item(k, 8, 1, 0));
            unchanged("item(" + k + "), a -1", slot ? INDEX : ARGUMENT, x -> x.item(k, -1, 1, 0));
            unchanged("item(" + k + "), b -1", ARGUMENT, x -> x.item(k, 0, -1, 0));
            unchanged("item(" + k + "), c 100", ARGUMENT, x -> x.item(k, 0, 1, 100));
        }
        unchanged("item(10)", ARGUMENT, x -> x.item(10, 0, 0, 0));
        for (int d : new int[] {-1, 4, MOST}) {
            unchanged("sure(" + d + ")", INDEX, x -> x.sure(d));
            unchanged("constrain(" + d + ")", INDEX, x -> x.constrain(d, 1, 0, 0, 0, 1));
        }
        unchanged("constrain(), a 8", INDEX, x -> x.constrain(0, 1, 8, 0, 0, 1));
        unchanged("constrain(), b 8", INDEX, x -> x.constrain(0, 0, 0, 8, 0, 1));
        unchanged("constrain(), c 8", INDEX, x -> x.constrain(0, 2, 0, 0, 8, 1));
        unchanged("constrain(), kind 4", ARGUMENT, x -> x.constrain(0, 4, 0, 0, 0, 1));
        unchanged("constrain(), by 0", ARGUMENT, x -> x.constrain(0, 3, 0, 0, 0, 1));
        unchanged("constrain(), equal 1000", ARGUMENT, x -> x.constrain(0, 1, 0, 1000, 0, 1));
        unchanged("constrain(), c 1", ARGUMENT, x -> x.constrain(0, 1, 0, 1, 1, 1));
        unchanged("constrain(), message 100", ARGUMENT, x -> x.constrain(0, 1, 0, 1, 0, 100));
        unchanged("constrain(), a word", ARGUMENT, x -> x.constrain(0, 1, 1, 1, 0, 1));
        unchanged("constrain(), in a loop", ARGUMENT, x -> x.constrain(0, 0, 0, 3, 0, 1));
    }

    private static void records() {
        for (int no : new int[] {-1, 8, NOTHING, MOST}) {
            unchanged("set(), slot " + no, INDEX, x -> x.set(no, 0, 77));
            unchanged("get(), slot " + no, INDEX, x -> x.get(no, 0));
            int round = no == 8 ? 3 : no;
            unchanged("set(), round " + round, INDEX, x -> x.set(1, round, 77));
            unchanged("get(), round " + round, INDEX, x -> x.get(1, round));
            int d = no == 8 ? 4 : no;
            unchanged("message(" + d + ")", INDEX, x -> x.message(d));
            unchanged("sample(" + d + ")", INDEX, x -> x.sample(d, 0) ? 1 : 0);
        }
        unchanged("sample(), seed -1", ARGUMENT, x -> x.sample(0, -1) ? 1 : 0);
        unchanged("sample(), seed 1000001", ARGUMENT, x -> x.sample(0, 1000001) ? 1 : 0);
        unchanged("sample() that there is none", "0", x -> x.sample(1, 5) ? 1 : 0);
    }

    private static void files() {
        for (int no : new int[] {-1, 2, NOTHING, MOST}) {
            unchanged("type(" + no + ")", INDEX, x -> x.type(no, 'a'));
            unchanged("print(0, " + no + ")", INDEX, x -> x.print(0, no));
            unchanged("close(" + no + ")", INDEX, x -> x.close(no) ? 1 : 0);
            unchanged("unit(" + no + ")", INDEX, x -> x.unit(no, 0));
            unchanged("readings(), file " + no, INDEX, x -> x.readings(0, no, 0));
            unchanged("readingsAnew(), file " + no, INDEX, x -> x.readingsAnew(0, no, 0));
            unchanged("read(), file " + no, INDEX, x -> x.read(0, no, 0, 0));
            int d = no == 2 ? 4 : no;
            unchanged("print(" + d + ")", INDEX, x -> x.print(d, 0));
            unchanged("readings(" + d + ")", INDEX, x -> x.readings(d, 0, 0));
            unchanged("readingsAnew(" + d + ")", INDEX, x -> x.readingsAnew(d, 0, 0));
            unchanged("read(" + d + ")", INDEX, x -> x.read(d, 0, 0, 0));
        }
        unchanged("type() of nothing", ARGUMENT, x -> x.type(0, 0));
        unchanged("type() of 127 behind others", ARGUMENT, x -> x.type(0, 'a' | 'b' << 8 | 127 << 16));
        unchanged("type() into a closed file", STATE, x -> x.type(1, 'a'));
        unchanged("print() into a closed file", STATE, x -> x.print(0, 1));
        unchanged("print() of bits that do not fit", STATE, x -> x.print(3, 0));
        unchanged("close() of a closed file", "0", x -> x.close(1) ? 1 : 0);
        readsThatThereAreNot();
    }

    /** File 0 has 30 units and file 1 has 25; description 0 has two readings at the beginning of file 0, 2 has none. */
    private static void readsThatThereAreNot() {
        for (int place : new int[] {-1, NOTHING, 31, MOST}) {
            int unit = place == 31 ? 30 : place;
            unchanged("unit(0, " + unit + ")", INDEX, x -> x.unit(0, unit));
            unchanged("readings(), place " + place, INDEX, x -> x.readings(0, 0, place));
            unchanged("readingsAnew(), place " + place, INDEX, x -> x.readingsAnew(0, 0, place));
            unchanged("read(), place " + place, INDEX, x -> x.read(0, 0, place, 0));
        }
        for (int index : new int[] {-1, NOTHING, 2, MOST}) {
            unchanged("read(), index " + index, INDEX, x -> x.read(0, 0, 0, index));
        }
        unchanged("read() without a reading", INDEX, x -> x.read(2, 0, 0, 0));
        unchanged("read() at the end", INDEX, x -> x.read(0, 1, 25, 0));
    }

    private static void streams() {
        for (int no : new int[] {-1, 2, NOTHING, MOST}) {
            unchanged("stream(" + no + ")", INDEX, x -> x.stream(no, 0));
            unchanged("step(" + no + ")", INDEX, x -> x.step(no));
            unchanged("progress(" + no + ")", INDEX, x -> x.progress(no));
            unchanged("skipped(" + no + ")", INDEX, x -> x.skipped(no, 0));
            unchanged("cell(" + no + ")", INDEX, x -> x.cell(no, 0, 0, 0));
            unchanged("take(" + no + ")", INDEX, x -> x.take(no, 0));
            int d = no == 2 ? 4 : no;
            unchanged("stream(0, " + d + ")", INDEX, x -> x.stream(0, d));
            unchanged("take(0, " + no + ")", INDEX, x -> x.take(0, no));
            int entry = no == 2 ? 1 : no;
            unchanged("skipped(0, " + entry + ")", INDEX, x -> x.skipped(0, entry));
        }
        unchanged("step() that waits", "-1", x -> x.step(0));
        unchanged("step() that has ended", "-2", x -> x.step(1));
        unchanged("cell(), slot 8", INDEX, x -> x.cell(0, 0, 8, 0));
        unchanged("cell(), round 3", INDEX, x -> x.cell(0, 0, 0, 3));
    }

    private static void columns() {
        unchanged("column(2)", INDEX, x -> x.column(2, 0, 0, 1));
        unchanged("column(), slot 8", INDEX, x -> x.column(0, 0, 8, 1));
        unchanged("column(), kind 4", ARGUMENT, x -> x.column(0, 4, 0, 1));
        unchanged("column(), window 0", ARGUMENT, x -> x.column(0, 0, 0, 0));
        unchanged("column(), window 6", ARGUMENT, x -> x.column(0, 0, 0, 6));
        for (int no : new int[] {-1, 2, NOTHING, MOST}) {
            unchanged("derived(" + no + ")", INDEX, x -> x.derived(no, 0));
            unchanged("derivedByBatch(" + no + ")", INDEX, x -> x.derivedByBatch(no, 0));
            unchanged("derived(0, " + no + ")", INDEX, x -> x.derived(0, no));
            unchanged("derivedByBatch(0, " + no + ")", INDEX, x -> x.derivedByBatch(0, no));
        }
    }

    private static void upgrades() {
        unchanged("change(), to 8", INDEX, x -> x.change(1, 8, 0, 0));
        unchanged("change(), a 8", INDEX, x -> x.change(0, 0, 8, 0));
        unchanged("change(), b 8", INDEX, x -> x.change(4, 0, 0, 8));
        unchanged("change(), kind 5", ARGUMENT, x -> x.change(5, 0, 0, 0));
        unchanged("change(), the number 1000", ARGUMENT, x -> x.change(1, 0, 1000, 0));
        unchanged("change(), 1000 added", ARGUMENT, x -> x.change(2, 0, 0, 1000));
        unchanged("change(), 10 times", ARGUMENT, x -> x.change(3, 0, 0, 10));
        unchanged("change(), b 1", ARGUMENT, x -> x.change(0, 0, 0, 1));
        for (int no : new int[] {-1, 4, NOTHING, MOST}) {
            unchanged("compose(0, " + no + ")", INDEX, x -> x.compose(0, no));
            unchanged("compose(" + no + ", 0)", INDEX, x -> x.compose(no, 0));
            unchanged("reverse(" + no + ")", INDEX, x -> x.reverse(no));
            unchanged("parts(" + no + ")", INDEX, x -> x.parts(no));
            unchanged("upgraded(" + no + ")", INDEX, x -> x.upgraded(no, 0));
        }
        unchanged("upgraded(), slot 8", INDEX, x -> x.upgraded(0, 8));
        unchanged("compose() of 120 parts", "-1", x -> x.compose(1, 0));
        unchanged("reverse() of a quotient", "-1", x -> x.reverse(3));
    }

    private static void finding() {
        for (int no : new int[] {-1, 8, NOTHING, MOST}) {
            int file = no == 8 ? 2 : no;
            unchanged("compare(" + no + ")", INDEX, x -> x.compare(no));
            unchanged("find(" + file + ")", INDEX, x -> x.find(file, 0, 4, 0));
            unchanged("find(), slot " + no, INDEX, x -> x.find(0, no, 4, 0));
            unchanged("findAnew(" + file + ")", INDEX, x -> x.findAnew(file, 0, 4, 0));
            unchanged("findAnew(), slot " + no, INDEX, x -> x.findAnew(0, no, 4, 0));
        }
        unchanged("find(), place -1", INDEX, x -> x.find(0, 0, 4, -1));
        unchanged("findAnew(), place -1", INDEX, x -> x.findAnew(0, 0, 4, -1));
        unchanged("find() of none", "-1", x -> x.find(0, 0, 5, 0));
        unchanged("find() of NOTHING", "-1", x -> x.find(0, 0, NOTHING, 0));
        unchanged("findAnew() of NOTHING", "-1", x -> x.findAnew(0, 0, NOTHING, 0));
    }

    /** Those that find and count, with what was found, in the middle of much else. */
    private static void callsThatOnlyTell() {
        unchanged("sure()", "1", x -> x.sure(0));
        unchanged("get()", "1", x -> x.get(3, 1));
        unchanged("message()", "0", x -> x.message(0));
        unchanged("unit()", "52", x -> x.unit(0, 1));
        unchanged("readings()", "2", x -> x.readings(0, 0, 0));
        unchanged("readings() at the end", "0", x -> x.readings(0, 0, 30));
        unchanged("readingsAnew()", "2", x -> x.readingsAnew(0, 0, 0));
        unchanged("progress()", "22027", x -> x.progress(0));
        unchanged("skipped()", "7011018", x -> x.skipped(0, 0));
        unchanged("cell()", "2", x -> x.cell(0, 0, 3, 1));
        unchanged("derived()", "10", x -> x.derived(0, 1));
        unchanged("derivedByBatch()", "10", x -> x.derivedByBatch(0, 1));
        unchanged("derivedByBatch() of the other file", "12", x -> x.derivedByBatch(1, 1));
        unchanged("upgraded()", "203", x -> x.upgraded(0, 2));
        unchanged("parts()", "56", x -> x.parts(1));
        unchanged("compare()", "10002", x -> x.compare(0));
        unchanged("find()", "1", x -> x.find(0, 0, 6, 0));
        unchanged("findAnew()", "1", x -> x.findAnew(0, 0, 6, 0));
    }

    private static void allIsFull() {
        unchanged("item 15", STATE, x -> x.item(5, 'o', 0, 0));
        unchanged("description 6", STATE, x -> x.description());
        unchanged("constraint 9", STATE, x -> x.constrain(0, 1, 7, 3, 0, 5));
        unchanged("unit 301", STATE, x -> x.type(0, 'a'));
        unchanged("units 300 and 301", STATE, x -> x.type(1, 'a' | 'b' << 8));
        unchanged("a line behind 300 units", STATE, x -> x.print(2, 0));
        unchanged("a line behind 299 units", STATE, x -> x.print(2, 1));
        unchanged("row 25", STATE, x -> x.step(0));
        unchanged("column 7", STATE, x -> x.column(0, 1, 0, 5));
        unchanged("upgrade 9", STATE, x -> x.upgrade());
        unchanged("a composed upgrade 9", STATE, x -> x.compose(0, 7));
        unchanged("a reversed upgrade 9", STATE, x -> x.reverse(7));
        unchanged("a seed too great", ARGUMENT, x -> x.sample(0, 1000001) ? 1 : 0);
    }

    private static void allIsClosed() {
        unchanged("type() into a closed file", STATE, x -> x.type(0, 'a'));
        unchanged("print() into a closed file", STATE, x -> x.print(2, 1));
        unchanged("row 25 of a closed file", STATE, x -> x.step(0));
        unchanged("close() again", "0", x -> x.close(0) ? 1 : 0);
    }

    /** What is shown would be another one, if something had changed: so it is behind calls that do change something. */
    private static void theOnesThatAreTakenChange() {
        in(Scenes::some);
        changes("item()", x -> x.item(5, '+', 0, 0));
        changes("dropItems()", x -> x.dropItems());
        changes("description()", x -> x.description());
        changes("constrain()", x -> x.constrain(0, 1, 7, 3, 0, 5));
        changes("constrain() of another one", x -> x.constrain(3, 1, 7, 3, 0, 5));
        for (int cell = 0; cell < 24; cell++) {
            int c = cell;
            changes("set()", x -> x.set(c / 3, c % 3, 77));
        }
        changes("sample()", x -> x.sample(0, 5) ? 1 : 0);
        changes("type()", x -> x.type(0, ' '));
        changes("print()", x -> x.print(1, 0));
        changes("close()", x -> x.close(0) ? 1 : 0);
        changes("read()", x -> x.read(0, 0, 0, 0));
        changes("stream()", x -> x.stream(0, 0));
        changes("stream() of the other file", x -> x.stream(1, 1));
        changes("take()", x -> x.take(0, 0));
        changes("column()", x -> x.column(0, 1, 0, 5));
        changes("change()", x -> x.change(1, 1, 1, 0));
        changes("change() of a slot that has a step", x -> x.change(1, 0, 1, 0));
        changes("upgrade()", x -> x.upgrade());
        changes("compose()", x -> x.compose(0, 2));
        changes("reverse()", x -> x.reverse(0));
    }

    private static void changes(String call, Asked asked) {
        NotationPress x = scene.make();
        asked.of(x);
        Due.answer(call + " changes something", shown(x).equals(before) ? 1 : 0, 0);
    }
}
