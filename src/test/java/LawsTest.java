import java.util.ArrayList;
import java.util.Arrays;
import java.util.List;
import java.util.Random;

/**
 * What the document says of all descriptions and upgrades, looked at on drawn ones, without a second writing of it:
 * a sure description reads at most one record, and the one that was printed; each reading prints the units that it
 * took; a sample can be printed and breaks no constraint; what is upgraded and taken back is what it was.
 */
public final class LawsTest {
    private static final int NOTHING = NotationPress.NOTHING;
    private static final int RUNS = 1200;
    private static final int CELLS = 24;

    private final Random random;
    private final NotationPress press = new NotationPress();
    private final List<int[]> items = new ArrayList<>();
    private final StringBuilder text = new StringBuilder();

    private LawsTest(int seed) {
        random = new Random(seed);
    }

    public static void main(String[] args) {
        int sure = 0;
        int printed = 0;
        int readings = 0;
        for (int seed = 1; seed <= RUNS; seed++) {
            LawsTest one = new LawsTest(seed);
            one.describe(seed % 2 == 0);
            boolean isSure = one.press.sure(0) == -1;
            Due.answer("sure(), seed " + seed, isSure ? 1 : 0, one.isSureByItsItems() ? 1 : 0);
            if (isSure) sure++;
            if (one.samplePrints(seed)) printed++;
            if (isSure) one.printedIsRead(seed);
            else one.typeLetters();
            readings += one.readingsPrint(seed, isSure);
            new LawsTest(seed).upgradedIsTakenBack(seed);
        }
        Due.answer("some are sure, some are not", sure > RUNS / 4 && sure < RUNS * 3 / 4 ? 1 : 0, 1);
        Due.answer("some are printed", printed > RUNS / 2 ? 1 : 0, 1);
        Due.answer("some have readings", readings > RUNS ? 1 : 0, 1);
        Due.end();
    }

    private int below(int bound) {
        return random.nextInt(bound);
    }

    private int pick(int... from) {
        return from[below(from.length)];
    }

    // drawn descriptions

    private void describe(boolean doubtful) {
        draw(doubtful);
        for (int[] i : items) press.item(i[0], i[1], i[2], i[3]);
        Due.answer("description()", press.description(), 0);
    }

    /** A count and bits at first, so that there is what loops and cases can tell; behind these, always a slot. */
    private void draw(boolean doubtful) {
        items.add(new int[] {Notes.COUNT, 0, 0, 0});
        items.add(new int[] {Notes.BITS, 1, 1 + below(2), 0});
        int slot = 2;
        while (slot < 7 && items.size() < 12) {
            int what = below(9);
            if (what == 0) items.add(new int[] {Notes.LOOP, 0, 1, 0});
            if (what == 1) items.add(new int[] {Notes.CASE, 1, 1, below(2)});
            if (what == 2) items.add(new int[] {Notes.CHECK, 0, 0, 0});
            if (what == 3) items.add(new int[] {Notes.BACK, below(slot), 0, 0});
            if (what != 2) items.add(slotItem(slot++, doubtful));
        }
    }

    private int[] slotItem(int slot, boolean doubtful) {
        switch (below(doubtful ? 7 : 5)) {
            case 0: return new int[] {Notes.NUMBER, slot, 1 + below(4), pick(0, 1, 2, 3, 8)};
            case 1: return new int[] {Notes.WORD, slot, 1 + below(4), below(2)};
            case 2: return new int[] {Notes.OPEN, slot, pick('!', '7', 'A', '`', '{'), 0};
            case 3: return new int[] {Notes.BITS, slot, 1 + below(3), 0};
            case 4: return new int[] {Notes.COUNT, slot, 0, 0};
            case 5: return new int[] {Notes.WORD, slot, 1 + below(4), 2};
            default: return new int[] {Notes.OPEN, slot, pick('a', 'b', 'z'), 0};
        }
    }

    private boolean isSureByItsItems() {
        for (int[] i : items) {
            if (i[0] == Notes.WORD && i[3] == 2 || i[0] == Notes.OPEN && Character.isLowerCase(i[2])) return false;
        }
        return true;
    }

    // the working record and what is printed of it

    private int[] record() {
        int[] all = new int[CELLS];
        for (int i = 0; i < CELLS; i++) all[i] = press.get(i / 3, i % 3);
        return all;
    }

    private void recordIs(String call, int[] due) {
        Due.text(call, Arrays.toString(record()), Arrays.toString(due));
    }

    /** Prints into the file 0, and looks at what came of it; tells whether the record can be printed. */
    private boolean isPrinted() {
        String length = Due.told(() -> press.print(0, 0));
        if (length.startsWith("throws")) return false;
        while (text.length() < Integer.parseInt(length)) text.append(press.unit(0, text.length()));
        return true;
    }

    private boolean samplePrints(int seed) {
        press.constrain(0, 0, 0, 1, 0, 1 + below(99));
        if (below(2) == 0) press.constrain(0, 3, 0, 2, 0, 1 + below(99));
        int drawn = below(1000001);
        if (!press.sample(0, drawn)) return false;
        int[] first = record();
        Due.answer("message() of a sample, seed " + seed, press.message(0), 0);
        Due.answer("the constraint 0, seed " + seed, press.get(0, 0) < press.get(1, 0) ? 1 : 0, 1);
        Due.answer("a sample is printed, seed " + seed, isPrinted() ? 1 : 0, 1);
        Due.answer("the same seed once more", press.sample(0, drawn) ? 1 : 0, 1);
        recordIs("the same sample, seed " + seed, first);
        return true;
    }

    /** Other values than a sample has: where these are printed, they are read, and no others. */
    private void printedIsRead(int seed) {
        int start = text.length();
        for (int[] i : items) {
            if (i[0] == Notes.WORD || i[0] == Notes.OPEN) press.set(i[1], 0, pick(0, 1, Notes.word("b@"), Notes.word("za")));
            if (i[0] == Notes.NUMBER) press.set(i[1], 0, pick(0, 9, 10, 1000));
        }
        int[] whole = record();
        if (!isPrinted()) return;
        Due.answer("readings(), seed " + seed, press.readings(0, 0, start), 1);
        Due.answer("read(), seed " + seed, press.read(0, 0, start, 0), text.length() - 1);
        int[] read = record();
        for (int i = 0; i < CELLS; i++) {
            if (read[i] != NOTHING) Due.answer("the cell " + i + ", seed " + seed, read[i], whole[i]);
        }
        for (int[] i : items) {
            if (i[0] == Notes.COUNT && i[1] == 0) Due.answer("the count is read", read[0] == NOTHING ? 1 : 0, 0);
        }
    }

    private void typeLetters() {
        for (int i = 0; i < 2; i++) {
            String line = below(4) + "x-x".substring(below(2)) + "aaabaaza1aaa".substring(below(9)) + "\n";
            Notes.type(press, 0, line);
            text.append(line);
        }
    }

    // readings

    /** Each reading is as printed by a record that can be printed: printing it gives the units that it took. */
    private int readingsPrint(int seed, boolean isSure) {
        int all = 0;
        int line = 0;
        for (int asked = 0; asked < 3 && line <= text.length(); asked++) {
            int place = line;
            String call = "from " + place + ", seed " + seed;
            int count = press.readings(0, 0, place);
            Due.answer("readingsAnew() " + call, press.readingsAnew(0, 0, place), count);
            if (isSure) Due.answer("a sure description " + call, count == 0 || count == 1 ? 1 : 0, 1);
            if (count >= 0 && count < 99) Due.index("read() " + call, () -> press.read(0, 0, place, count));
            if (count > 0) printsWhatItTook(call, place, below(count));
            if (count > 0) all += count;
            int end = text.indexOf("\n", place);
            line = end < 0 ? text.length() + 1 : end + 1;
        }
        return all;
    }

    private void printsWhatItTook(String call, int place, int index) {
        int end = press.read(0, 0, place, index);
        int before = press.type(1, '!');
        Due.answer("print() " + call, press.print(0, 1), before + end - place + 1);
        StringBuilder printed = new StringBuilder();
        for (int i = 0; i < end - place; i++) printed.append(press.unit(1, before + i));
        Due.text("reading " + index + " " + call, printed.toString(), text.substring(place, end));
    }

    // upgrades

    /** Each slot of the old record goes into one of the new one: all of it comes back from numbers of two digits. */
    private void upgradedIsTakenBack(int seed) {
        int[] values = new int[8];
        for (int slot = 0; slot < 8; slot++) {
            values[slot] = below(100);
            press.set(slot, 0, values[slot]);
        }
        for (int slot = 0; slot < 8; slot += 2) {
            int kind = below(4);
            int one = (slot + seed) % 8;
            int two = (slot + 1 + seed) % 8;
            if (kind == 0) {
                press.change(4, slot, two, one);
            } else {
                press.change(kind == 1 ? 0 : kind, slot, one, kind == 1 ? 0 : 2 + below(8));
                press.change(2, slot + 1, two, below(1999) - 999);
            }
        }
        int there = press.upgrade();
        int back = press.reverse(there);
        int both = press.compose(there, back);
        for (int slot = 0; slot < 8; slot++) {
            Due.answer("there and back, slot " + slot + ", seed " + seed, press.upgraded(both, slot), values[slot]);
        }
    }
}
