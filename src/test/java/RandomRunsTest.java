import java.util.ArrayList;
import java.util.Collections;
import java.util.List;
import java.util.Random;

/**
 * Asks NotationPress and PlainPress the same calls, drawn with fixed seeds, 512 for each object.
 * Each run has a theme, so that tables, upgrades, readings and samples are come to in their depth as well.
 * With numbers as arguments: the first seed, and how many runs.
 */
public final class RandomRunsTest {
    private static final int NOTHING = NotationPress.NOTHING;
    private static final int CALLS = 512;

    private final Random random;
    private final int run;
    private final NotationPress press = new NotationPress();
    private final PlainPress plain = new PlainPress();
    private final List<List<int[]>> made = new ArrayList<>();
    private int calls = 0;

    private RandomRunsTest(int run) {
        this.run = run;
        random = new Random(run);
    }

    public static void main(String[] args) {
        int first = args.length > 0 ? Integer.parseInt(args[0]) : 1;
        int runs = args.length > 1 ? Integer.parseInt(args[1]) : 1500;
        for (int i = 0; i < runs; i++) new RandomRunsTest(first + i).go();
        Due.end();
    }

    private boolean ask(String call, Due.Call asked, Due.Call due) {
        if (calls >= CALLS) return false;
        calls++;
        String want = Due.told(due);
        Due.text("seed " + run + ", call " + calls + ": " + call, Due.told(asked), want);
        return !want.startsWith("throws");
    }

    private int below(int bound) {
        return random.nextInt(bound);
    }

    private boolean oneIn(int bound) {
        return below(bound) == 0;
    }

    private int pick(int... from) {
        return from[below(from.length)];
    }

    private void go() {
        switch (run % 5) {
            case 1: goOverTables(); break;
            case 2: goOverUpgrades(); break;
            case 3: goOverReadings(); break;
            case 4: goOverSamples(); break;
            default: goOverAll(); break;
        }
    }

    private void goOverAll() {
        int kinds = 1 + below(3);
        for (int i = 0; i < kinds; i++) makeDescription();
        while (calls < CALLS) act();
    }

    private void act() {
        switch (below(22)) {
            case 0: if (oneIn(2)) makeDescription(); break;
            case 1: constrain(); break;
            case 2: case 3: fillAndPrint(); break;
            case 4: case 5: sampleAndPrint(); break;
            case 6: type(); break;
            case 7: typeLikePrinted(); break;
            case 8: case 9: readings(); break;
            case 10: read(); break;
            case 11: if (oneIn(3)) stream(); else steps(); break;
            case 12: case 13: case 14: steps(); break;
            case 15: lookAtTable(); break;
            case 16: column(); break;
            case 17: case 18: upgrade(); break;
            case 19: compareAndFind(); break;
            case 20: lookAtRecord(); break;
            default: if (oneIn(2)) wild(); break;
        }
    }

    /** Short lines, so that there are many rows; keys that come again, and values that are not there. */
    private void goOverTables() {
        int same = below(8);
        List<int[]> items = new ArrayList<>();
        items.add(oneIn(2) ? new int[] {6, same, 0, 0} : new int[] {3, same, 1 + below(2), 0});
        int[] cased = {0, (same + 1) % 8, 1, 0};
        items.add(new int[] {8, same, 1, below(3)});
        items.add(cased);
        if (oneIn(2)) items.add(new int[] {2, (same + 2) % 8, pick('a', ';'), 0});
        makeOf(items);
        for (int f = 0; f < 2; f++) {
            int file = f;
            ask("stream(" + f + ", 0)", () -> press.stream(file, 0), () -> plain.stream(file, 0));
        }
        for (int i = 0; i < 6; i++) {
            int f = below(2);
            int kind = below(4);
            int slot = oneIn(3) ? cased[1] : same;
            int window = 1 + below(5);
            ask("column(" + f + ", " + kind + ", " + slot + ", " + window + ")",
                () -> press.column(f, kind, slot, window), () -> plain.column(f, kind, slot, window));
        }
        while (calls < CALLS) {
            switch (below(12)) {
                case 0: case 1: case 2: sampleAndPrint(); steps(); break;
                case 3: typeText(below(2), pick(0, 1) == 0 ? "0\n" : "1" + below(10) + "a\n"); break;
                case 4: typeText(below(2), "-x".charAt(below(2)) + "x" + "a;\n"); steps(); break;
                case 5: case 6: steps(); break;
                case 7: lookAtTable(); break;
                case 8: lookAtColumns(below(24)); break;
                case 9: case 10: compareAndFind(same); compareAndFind(cased[1]); break;
                default: if (oneIn(3)) constrain(); else if (oneIn(5)) stream(); break;
            }
        }
    }

    private void goOverUpgrades() {
        while (calls < CALLS) {
            int what = below(8);
            int one = below(8);
            int two = below(8);
            if (what == 0) {
                int steps = 3 + below(6);
                for (int i = 0; i < steps; i++) change();
                ask("upgrade()", () -> press.upgrade(), () -> plain.upgrade());
            } else if (what < 4) {
                ask("compose(" + one + ", " + two + ")", () -> press.compose(one, two), () -> plain.compose(one, two));
            } else if (what == 4) {
                ask("reverse(" + one + ")", () -> press.reverse(one), () -> plain.reverse(one));
            } else {
                for (int i = 0; i < 8; i++) {
                    if (oneIn(2)) put(i, 0, oneIn(9) ? NOTHING : oneIn(4) ? random.nextInt() : below(20000) - 10000);
                }
                lookAtUpgrade(one);
            }
        }
    }

    /** Words with doubtful ends, over texts of few letters. */
    private void goOverReadings() {
        for (int d = 0; d < 4; d++) {
            List<int[]> items = new ArrayList<>();
            int size = 2 + below(4);
            for (int slot = 0; slot < size; slot++) {
                items.add(oneIn(2) ? new int[] {1, slot, 1 + below(7), 2} : new int[] {2, slot, pick('a', 'a', 'b'), 0});
                if (oneIn(6)) items.add(new int[] {9, slot, 0, 0});
            }
            if (oneIn(3)) {
                items.add(0, new int[] {6, 7, 0, 0});
                items.add(1 + below(items.size()), new int[] {7 + below(2), 7, 1, 0});
            }
            makeOf(items);
        }
        while (calls < CALLS) {
            StringBuilder text = new StringBuilder();
            if (oneIn(5)) text.append(below(4));
            int size = 1 + below(22);
            for (int i = 0; i < size; i++) text.append(oneIn(5) ? pick('b', 'c', '0', '1') == 'b' ? 'b' : 'a' : 'a');
            typeText(below(2), text + "\n");
            for (int i = 0; i < 3; i++) readings();
            read();
            if (oneIn(4)) stream();
            steps();
            lookAtTable();
            if (oneIn(3)) fillAndPrint();
        }
    }

    private void goOverSamples() {
        for (int d = 0; d < 3; d++) {
            List<int[]> items = soundItems();
            makeOf(items);
            for (int i = 0; i < 6; i++) constrain();
        }
        while (calls < CALLS) {
            sampleAndPrint();
            int d = someDescription();
            ask("message(" + d + ")", () -> press.message(d), () -> plain.message(d));
            if (oneIn(4)) {
                stream();
                lookAtTable();
            }
            if (oneIn(6)) constrain();
        }
    }

    // descriptions

    private void makeDescription() {
        makeOf(oneIn(6) ? wildItems() : soundItems());
    }

    private void makeOf(List<int[]> items) {
        List<int[]> taken = new ArrayList<>();
        for (int[] i : items) {
            boolean there = ask("item(" + i[0] + ", " + i[1] + ", " + i[2] + ", " + i[3] + ")",
                () -> press.item(i[0], i[1], i[2], i[3]), () -> plain.item(i[0], i[1], i[2], i[3]));
            if (there) taken.add(i);
        }
        int before = made.size();
        int[] number = {-1};
        ask("description()", () -> press.description(), () -> number[0] = plain.description());
        if (number[0] >= before) {
            made.add(taken);
            ask("sure(" + before + ")", () -> press.sure(before), () -> plain.sure(before));
        } else {
            ask("dropItems()", () -> press.dropItems(), () -> plain.dropItems());
        }
    }

    private int signOf() {
        return pick('-', ':', ' ', '5', 'a', 'x', '0');
    }

    private int[] slotItem(int slot) {
        switch (below(12)) {
            case 0: case 1: case 2: {
                int form = pick(0, 0, 1, 2, 3, 5, 6, 8);
                return new int[] {0, slot, pick(1, 2, 3, 4, 5, 6, 7, 8), form};
            }
            case 3: case 4: case 5: return new int[] {1, slot, pick(1, 2, 3, 5, 7, 9), pick(0, 1, 2, 2, 2)};
            case 6: case 7: case 8: return new int[] {2, slot, pick(';', '7', 'a', 'a', 'b', '!'), 0};
            case 9: case 10: return new int[] {3, slot, pick(1, 2, 3, 8), 0};
            default: return new int[] {6, slot, 0, 0};
        }
    }

    private int[] plainItem() {
        if (oneIn(3)) return new int[] {4, 0, 0, 0};
        return oneIn(2) ? new int[] {5, signOf(), 0, 0} : new int[] {9, below(8), 0, 0};
    }

    private List<int[]> soundItems() {
        List<Integer> slots = new ArrayList<>(List.of(0, 1, 2, 3, 4, 5, 6, 7));
        Collections.shuffle(slots, random);
        List<int[]> items = new ArrayList<>();
        List<int[]> tellers = new ArrayList<>();
        int size = 1 + below(14);
        while (items.size() < size) {
            int what = below(10);
            if (what < 2 && !tellers.isEmpty() && items.size() < 13) {
                embrace(items, tellers.get(below(tellers.size())), slots);
            } else if (what < 8 && !slots.isEmpty()) {
                int[] item = oneIn(5) ? new int[] {6, slots.remove(0), 0, 0} : slotItem(slots.remove(0));
                items.add(item);
                if (item[0] == 0 || item[0] == 3 || item[0] == 6) tellers.add(item);
            } else {
                int[] item = plainItem();
                // A BACK to a slot that is not printed makes the whole description useless: seldom is enough.
                if (item[0] == 9 && !items.isEmpty() && !oneIn(8)) item[1] = items.get(below(items.size()))[1] & 7;
                items.add(item);
            }
        }
        return items;
    }

    private void embrace(List<int[]> items, int[] teller, List<Integer> slots) {
        int body = Math.min(1 + below(3), 13 - items.size());
        boolean loop = teller[0] == 6 && oneIn(2);
        items.add(new int[] {loop ? 7 : 8, teller[1], body, loop ? 0 : below(3)});
        for (int i = 0; i < body; i++) {
            items.add(slots.isEmpty() || oneIn(3) ? plainItem() : slotItem(slots.remove(0)));
        }
    }

    private List<int[]> wildItems() {
        List<int[]> items = new ArrayList<>();
        int size = below(17);
        for (int i = 0; i < size; i++) {
            items.add(oneIn(2) ? slotItem(below(9))
                : new int[] {below(12) - 1, below(10) - 1, pick(0, 1, 2, 3, 4, 9, 33), pick(0, 0, 0, 1, 2, 99)});
        }
        return items;
    }

    private int someDescription() {
        return made.isEmpty() || oneIn(40) ? below(8) - 1 : below(made.size());
    }

    private void constrain() {
        int d = someDescription();
        int kind = oneIn(20) ? pick(-1, 4) : below(4);
        int a = oneIn(20) ? pick(-1, 8) : below(8);
        int b = oneIn(12) ? pick(-1, 8, 100, 1000) : kind == 1 ? below(4) : kind == 3 ? 1 + below(4) : below(8);
        int c = kind == 2 ? (oneIn(20) ? 8 : below(8)) : oneIn(20) ? 1 : 0;
        int message = oneIn(20) ? pick(0, 100) : 1 + below(99);
        ask("constrain(" + d + ", " + kind + ", " + a + ", " + b + ", " + c + ", " + message + ")",
            () -> press.constrain(d, kind, a, b, c, message), () -> plain.constrain(d, kind, a, b, c, message));
    }

    // the working record and printing

    private int someWord() {
        int word = 0;
        int letters = below(6);
        for (int i = 0; i < letters; i++) word |= pick(1, 1, 1, 2, 27, 3) << (5 * i);
        return oneIn(30) ? word | 28 << 20 : oneIn(30) ? word << 5 : word;
    }

    private int valueFor(int[] item) {
        if (oneIn(60)) return pick(NOTHING, -1, Integer.MAX_VALUE, 4, 256);
        switch (item[0]) {
            case 0: return below((int) Math.pow(10, 1 + below(item[2])));
            case 1: case 2: return someWord();
            case 3: return below(1 << item[2]);
            default: return below(4);
        }
    }

    private void put(int slot, int round, int value) {
        ask("set(" + slot + ", " + round + ", " + value + ")",
            () -> press.set(slot, round, value), () -> plain.set(slot, round, value));
    }

    private void fillAndPrint() {
        int d = someDescription();
        if (d >= 0 && d < made.size()) {
            for (int[] item : made.get(d)) {
                boolean owns = item[0] <= 3 || item[0] == 6;
                for (int round = 0; owns && round < 3; round++) {
                    if (round == 0 || oneIn(2)) put(item[1], round, valueFor(item));
                }
            }
        }
        ask("message(" + d + ")", () -> press.message(d), () -> plain.message(d));
        print(d);
    }

    private void print(int d) {
        int f = below(20) == 0 ? pick(-1, 2) : below(2);
        ask("print(" + d + ", " + f + ")", () -> press.print(d, f), () -> plain.print(d, f));
    }

    private void sampleAndPrint() {
        int d = someDescription();
        int seed = oneIn(20) ? pick(-1, 0, 1000000, 1000001) : below(1000001);
        ask("sample(" + d + ", " + seed + ")",
            () -> press.sample(d, seed) ? 1 : 0, () -> plain.sample(d, seed) ? 1 : 0);
        if (oneIn(2)) lookAtRecord();
        print(d);
    }

    private void lookAtRecord() {
        for (int i = 0; i < 24; i++) {
            int slot = i / 3;
            int round = i % 3;
            if (round == 0 || oneIn(3)) {
                ask("get(" + slot + ", " + round + ")", () -> press.get(slot, round), () -> plain.get(slot, round));
            }
        }
    }

    // files and readings

    private void typeText(int file, String text) {
        for (int i = 0; i < text.length(); i += 4) {
            int four = 0;
            for (int j = i; j < text.length() && j < i + 4; j++) four |= text.charAt(j) << (8 * (j - i));
            int all = four;
            ask("type(" + file + ", " + all + ")", () -> press.type(file, all), () -> plain.type(file, all));
        }
    }

    private void type() {
        int file = below(2);
        if (oneIn(4)) {
            int four = oneIn(2) ? random.nextInt() : pick(0, 9, 31, 127, 128, 97 | 98 << 16, 97 << 8, 97 << 24);
            ask("type(" + file + ", " + four + ")", () -> press.type(file, four), () -> plain.type(file, four));
            return;
        }
        StringBuilder text = new StringBuilder();
        int size = below(14);
        for (int i = 0; i < size; i++) text.append("aaaaaaaab0123,.x-;7 \n".charAt(below(21)));
        typeText(file, text.toString());
    }

    private void typeLikePrinted() {
        int file = below(2);
        StringBuilder text = new StringBuilder();
        try {
            int from = below(60);
            for (int i = 0; i < 16; i++) {
                char unit = plain.unit(file, from + i);
                if (unit < 127) text.append(oneIn(12) ? "a0-x1 ".charAt(below(6)) : unit);
            }
        } catch (IndexOutOfBoundsException e) {
            text.append('\n');
        }
        typeText(file, text.toString());
    }

    /** Mostly where a line begins. */
    private int somePlace(int file) {
        if (oneIn(5)) return below(310) - 1;
        List<Integer> places = new ArrayList<>(List.of(0));
        for (int i = 0; i < 300; i++) {
            try {
                if (plain.unit(file, i) == '\n') places.add(i + 1);
            } catch (IndexOutOfBoundsException e) {
                break;
            }
        }
        return places.get(below(places.size()));
    }

    private void readings() {
        int d = someDescription();
        int f = below(2);
        int place = somePlace(f);
        String with = "(" + d + ", " + f + ", " + place + ")";
        ask("readings" + with, () -> press.readings(d, f, place), () -> plain.readings(d, f, place));
        ask("readingsAnew" + with, () -> press.readingsAnew(d, f, place), () -> plain.readings(d, f, place));
        if (oneIn(4)) ask("unit(" + f + ", " + place + ")", () -> press.unit(f, place), () -> plain.unit(f, place));
    }

    private void read() {
        int d = someDescription();
        int f = below(2);
        int place = somePlace(f);
        int index = oneIn(3) ? below(130) - 1 : 0;
        boolean there = ask("read(" + d + ", " + f + ", " + place + ", " + index + ")",
            () -> press.read(d, f, place, index), () -> plain.read(d, f, place, index));
        if (there) lookAtRecord();
    }

    // streams

    private void stream() {
        int d = someDescription();
        int f = below(2);
        ask("stream(" + f + ", " + d + ")", () -> press.stream(f, d), () -> plain.stream(f, d));
        steps();
    }

    private void steps() {
        int f = oneIn(30) ? pick(-1, 2) : below(2);
        int steps = 1 + below(3);
        for (int i = 0; i < steps; i++) ask("step(" + f + ")", () -> press.step(f), () -> plain.step(f));
        ask("progress(" + f + ")", () -> press.progress(f), () -> plain.progress(f));
        if (oneIn(60)) ask("close(" + f + ")", () -> press.close(f) ? 1 : 0, () -> plain.close(f) ? 1 : 0);
    }

    private void lookAtTable() {
        int f = below(2);
        int row = below(6) - (oneIn(10) ? 1 : 0);
        for (int slot = 0; slot < 8; slot++) {
            int s = oneIn(30) ? pick(-1, 8) : slot;
            int r = oneIn(30) ? pick(-1, 3) : oneIn(2) ? 0 : below(3);
            ask("cell(" + f + ", " + row + ", " + s + ", " + r + ")",
                () -> press.cell(f, row, s, r), () -> plain.cell(f, row, s, r));
        }
        int entry = below(5) - (oneIn(10) ? 1 : 0);
        ask("skipped(" + f + ", " + entry + ")", () -> press.skipped(f, entry), () -> plain.skipped(f, entry));
        ask("take(" + f + ", " + row + ")", () -> press.take(f, row), () -> plain.take(f, row));
    }

    private void column() {
        int f = oneIn(30) ? pick(-1, 2) : below(2);
        int kind = oneIn(30) ? pick(-1, 4) : below(4);
        int slot = oneIn(30) ? pick(-1, 8) : below(8);
        int window = oneIn(20) ? pick(0, 6) : 1 + below(5);
        if (oneIn(2)) {
            ask("column(" + f + ", " + kind + ", " + slot + ", " + window + ")",
                () -> press.column(f, kind, slot, window), () -> plain.column(f, kind, slot, window));
        }
        lookAtColumns(below(8) - (oneIn(10) ? 1 : 0));
    }

    private void lookAtColumns(int row) {
        for (int i = 0; i < 6; i++) {
            int c = oneIn(30) ? pick(-1, 6) : i;
            ask("derived(" + c + ", " + row + ")", () -> press.derived(c, row), () -> plain.derived(c, row));
            ask("derivedByBatch(" + c + ", " + row + ")",
                () -> press.derivedByBatch(c, row), () -> plain.derived(c, row));
        }
    }

    // upgrades, comparing and finding

    private void upgrade() {
        int what = below(6);
        int one = below(9) - (oneIn(10) ? 1 : 0);
        int two = below(9) - (oneIn(10) ? 1 : 0);
        if (what < 2) {
            int steps = below(5);
            for (int i = 0; i < steps; i++) change();
            if (oneIn(2)) ask("upgrade()", () -> press.upgrade(), () -> plain.upgrade());
        } else if (what == 2) {
            ask("compose(" + one + ", " + two + ")", () -> press.compose(one, two), () -> plain.compose(one, two));
        } else if (what == 3) {
            ask("reverse(" + one + ")", () -> press.reverse(one), () -> plain.reverse(one));
        } else {
            if (oneIn(3)) put(below(8), 0, oneIn(3) ? random.nextInt() : below(2000) - 1000);
            lookAtUpgrade(one);
        }
    }

    private void lookAtUpgrade(int number) {
        ask("parts(" + number + ")", () -> press.parts(number), () -> plain.parts(number));
        for (int i = 0; i < 8; i++) {
            int slot = oneIn(30) ? pick(-1, 8) : i;
            ask("upgraded(" + number + ", " + slot + ")",
                () -> press.upgraded(number, slot), () -> plain.upgraded(number, slot));
        }
    }

    private void change() {
        int kind = oneIn(30) ? pick(-1, 5) : below(5);
        int to = oneIn(30) ? pick(-1, 8) : below(8);
        int a = oneIn(30) ? pick(-1, 8) : below(8);
        int b = kind == 2 ? below(2000) - 1000 : kind == 3 ? 2 + below(8) : kind == 4 ? below(8) : 0;
        int other = oneIn(20) ? pick(-1, 1, 8, 10, 1000) : b;
        ask("change(" + kind + ", " + to + ", " + a + ", " + other + ")",
            () -> press.change(kind, to, a, other), () -> plain.change(kind, to, a, other));
    }

    private void compareAndFind() {
        compareAndFind(oneIn(30) ? pick(-1, 8) : below(8));
    }

    private void compareAndFind(int slot) {
        ask("compare(" + slot + ")", () -> press.compare(slot), () -> plain.compare(slot));
        int f = below(2);
        int value = below(8);
        try {
            if (!oneIn(4)) value = plain.cell(f, below(5), slot, 0);
        } catch (IndexOutOfBoundsException e) {
            value = pick(NOTHING, 0, -1);
        }
        int v = value;
        int place = oneIn(3) ? below(4) - 1 : 0;
        String with = "(" + f + ", " + slot + ", " + v + ", " + place + ")";
        ask("find" + with, () -> press.find(f, slot, v, place), () -> plain.find(f, slot, v, place));
        ask("findAnew" + with, () -> press.findAnew(f, slot, v, place), () -> plain.find(f, slot, v, place));
    }

    private int wildNumber() {
        return pick(NOTHING, NOTHING + 1, -1, 0, 1, 2, 3, 7, 8, 300, 301, Integer.MAX_VALUE - 1, Integer.MAX_VALUE);
    }

    /** Numbers out of all ranges: nothing but what the document names may be thrown. */
    private void wild() {
        int a = wildNumber();
        int b = wildNumber();
        int c = wildNumber();
        int d = wildNumber();
        String with = " with " + a + ", " + b + ", " + c + ", " + d;
        ask("item" + with, () -> press.item(a, b, c, d), () -> plain.item(a, b, c, d));
        ask("sure" + with, () -> press.sure(a), () -> plain.sure(a));
        ask("constrain" + with, () -> press.constrain(a, b, c, d, 0, 1), () -> plain.constrain(a, b, c, d, 0, 1));
        ask("set" + with, () -> press.set(a, b, c), () -> plain.set(a, b, c));
        ask("get" + with, () -> press.get(a, b), () -> plain.get(a, b));
        ask("message" + with, () -> press.message(a), () -> plain.message(a));
        ask("sample" + with, () -> press.sample(a, b) ? 1 : 0, () -> plain.sample(a, b) ? 1 : 0);
        ask("type" + with, () -> press.type(a, b), () -> plain.type(a, b));
        ask("print" + with, () -> press.print(a, b), () -> plain.print(a, b));
        ask("unit" + with, () -> press.unit(a, b), () -> plain.unit(a, b));
        ask("readings" + with, () -> press.readings(a, b, c), () -> plain.readings(a, b, c));
        ask("readingsAnew" + with, () -> press.readingsAnew(a, b, c), () -> plain.readings(a, b, c));
        ask("read" + with, () -> press.read(a, b, c, d), () -> plain.read(a, b, c, d));
        ask("stream" + with, () -> press.stream(a, b), () -> plain.stream(a, b));
        ask("step" + with, () -> press.step(a), () -> plain.step(a));
        ask("progress" + with, () -> press.progress(a), () -> plain.progress(a));
        ask("skipped" + with, () -> press.skipped(a, b), () -> plain.skipped(a, b));
        ask("cell" + with, () -> press.cell(a, b, c, d), () -> plain.cell(a, b, c, d));
        ask("take" + with, () -> press.take(a, b), () -> plain.take(a, b));
        ask("column" + with, () -> press.column(a, b, c, d), () -> plain.column(a, b, c, d));
        ask("derived" + with, () -> press.derived(a, b), () -> plain.derived(a, b));
        ask("derivedByBatch" + with, () -> press.derivedByBatch(a, b), () -> plain.derived(a, b));
        ask("change" + with, () -> press.change(a, b, c, d), () -> plain.change(a, b, c, d));
        ask("compose" + with, () -> press.compose(a, b), () -> plain.compose(a, b));
        ask("reverse" + with, () -> press.reverse(a), () -> plain.reverse(a));
        ask("upgraded" + with, () -> press.upgraded(a, b), () -> plain.upgraded(a, b));
        ask("parts" + with, () -> press.parts(a), () -> plain.parts(a));
        ask("compare" + with, () -> press.compare(a), () -> plain.compare(a));
        ask("find" + with, () -> press.find(a, b, c, d), () -> plain.find(a, b, c, d));
        ask("findAnew" + with, () -> press.findAnew(a, b, c, d), () -> plain.find(a, b, c, d));
    }
}
