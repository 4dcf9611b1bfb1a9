import java.math.BigInteger;
import java.util.ArrayList;
import java.util.Collections;
import java.util.HashMap;
import java.util.LinkedHashMap;
import java.util.List;
import java.util.Map;
import java.util.TreeMap;
import java.util.function.Consumer;

/**
 * The document once more, written with the Java library and recursion, without a thought of speed:
 * RandomRunsTest asks it and NotationPress the same calls.
 */
final class PlainPress {
    static final int NOTHING = Integer.MIN_VALUE;
    private static final String FACE = new String(Character.toChars(128512));

    record Item(int kind, int a, int b, int c) {
        boolean owns() {
            return kind <= 3 || kind == 6;
        }
    }

    record Constraint(int kind, int a, int b, int c, int message) {
    }

    static final class Description {
        List<Item> items;
        List<Constraint> constraints = new ArrayList<>();
    }

    /** A value's slot and round. */
    record Cell(int slot, int round) {
    }

    record Reading(Map<Cell, Integer> values, int end) {
    }

    static final class Stream {
        int description;
        int place;
        int doubts;
        List<Map<Cell, Integer>> rows = new ArrayList<>();
        List<Integer> ledger = new ArrayList<>();
    }

    record Column(int file, int kind, int slot, int window) {
    }

    interface Part {
    }

    record Slot(int slot) implements Part {
    }

    record Plain(int number) implements Part {
    }

    record Sum(Part of, int number) implements Part {
    }

    record Multiple(Part of, int number) implements Part {
    }

    record Join(Part first, Part second) implements Part {
    }

    record Quotient(Part of, int number) implements Part {
    }

    record Rest(Part of, int number) implements Part {
    }

    private final List<Item> draft = new ArrayList<>();
    private final List<Description> descriptions = new ArrayList<>();
    private Map<Cell, Integer> record = new HashMap<>();
    private final StringBuilder[] texts = {new StringBuilder(), new StringBuilder()};
    private final boolean[] closed = new boolean[2];
    private final Stream[] streams = new Stream[2];
    private final List<Column> columns = new ArrayList<>();
    private TreeMap<Integer, Part> upgradeDraft = new TreeMap<>();
    private final List<TreeMap<Integer, Part>> upgrades = new ArrayList<>();

    private static void needIndex(boolean there) {
        if (!there) throw new IndexOutOfBoundsException();
    }

    private static void needArgument(boolean fine) {
        if (!fine) throw new IllegalArgumentException();
    }

    private static void needState(boolean fine) {
        if (!fine) throw new IllegalStateException();
    }

    private static boolean in(int value, int from, int to) {
        return from <= value && value <= to;
    }

    private static boolean slot(int a) {
        return in(a, 0, 7);
    }

    // descriptions

    int item(int kind, int a, int b, int c) {
        needIndex(!in(kind, 0, 9) || kind == 4 || kind == 5 || slot(a));
        int[][] bs = {{1, 8}, {1, 9}, {33, 126}, {1, 8}, {0, 0}, {0, 0}, {0, 0}, {1, 3}, {1, 3}, {0, 0}};
        int[][] cs = {{0, 8}, {0, 2}, {0, 0}, {0, 0}, {0, 0}, {0, 0}, {0, 0}, {0, 0}, {0, 99}, {0, 0}};
        needArgument(in(kind, 0, 9));
        needArgument(in(b, bs[kind][0], bs[kind][1]) && in(c, cs[kind][0], cs[kind][1]));
        needArgument(kind != 0 || c != 4 && c != 7);
        needArgument(kind != 4 || a == 0);
        needArgument(kind != 5 || in(a, 32, 126));
        needState(draft.size() < 14);
        draft.add(new Item(kind, a, b, c));
        return draft.size();
    }

    int dropItems() {
        int size = draft.size();
        draft.clear();
        return size;
    }

    private static List<Integer> looped(List<Item> items) {
        List<Integer> in = new ArrayList<>();
        for (int i = 0; i < items.size(); i++) {
            for (int j = 1; items.get(i).kind == 7 && j <= items.get(i).b; j++) in.add(i + j);
        }
        return in;
    }

    private static boolean sound(List<Item> items) {
        List<Integer> looped = looped(items);
        List<Integer> owned = new ArrayList<>();
        Map<Integer, Integer> tellers = new HashMap<>();
        for (int i = 0; i < items.size(); i++) {
            Item item = items.get(i);
            if (item.owns()) {
                if (owned.contains(item.a)) return false;
                owned.add(item.a);
                if (!looped.contains(i)) tellers.put(item.a, item.kind);
            }
            if (item.kind == 7 || item.kind == 8) {
                if (i + item.b >= items.size()) return false;
                for (Item inner : items.subList(i + 1, i + 1 + item.b)) {
                    if (inner.kind == 7 || inner.kind == 8) return false;
                }
                Integer teller = tellers.get(item.a);
                if (teller == null) return false;
                if (teller != 6 && (item.kind == 7 || teller != 0 && teller != 3)) return false;
            }
        }
        return !items.isEmpty();
    }

    int description() {
        needState(descriptions.size() < 6);
        if (!sound(draft)) return -1;
        Description made = new Description();
        made.items = List.copyOf(draft);
        draft.clear();
        descriptions.add(made);
        return descriptions.size() - 1;
    }

    private Description need(int description) {
        needIndex(in(description, 0, descriptions.size() - 1));
        return descriptions.get(description);
    }

    int sure(int description) {
        List<Item> items = need(description).items;
        for (Item item : items) {
            boolean doubtful = item.kind == 1 && item.c == 2 || item.kind == 2 && in(item.b, 'a', 'z');
            if (doubtful) return items.indexOf(item);
        }
        return -1;
    }

    int constrain(int description, int kind, int a, int b, int c, int message) {
        Description told = need(description);
        List<Integer> slots = new ArrayList<>(List.of(a));
        if (kind == 0 || kind == 2) slots.add(b);
        if (kind == 2) slots.add(c);
        for (int s : slots) needIndex(slot(s));
        needArgument(in(kind, 0, 3) && in(message, 1, 99) && (kind == 2 || c == 0));
        needArgument(kind != 1 || in(b, 0, 999));
        needArgument(kind != 3 || in(b, 1, 99));
        for (int i = 0; i < told.items.size(); i++) {
            Item item = told.items.get(i);
            if (!item.owns() || !slots.contains(item.a)) continue;
            needArgument(item.kind != 1 && item.kind != 2 && !looped(told.items).contains(i));
        }
        needState(told.constraints.size() < 8);
        told.constraints.add(new Constraint(kind, a, b, c, message));
        return told.constraints.size();
    }

    private static int broken(Description told, Map<Cell, Integer> values) {
        for (Constraint one : told.constraints) {
            if (!holds(one, values)) return one.message;
        }
        return 0;
    }

    private static boolean holds(Constraint one, Map<Cell, Integer> values) {
        Integer a = values.get(new Cell(one.a, 0));
        Integer b = values.get(new Cell(one.b, 0));
        Integer c = values.get(new Cell(one.c, 0));
        if (a == null) return true;
        if (one.kind == 0) return b == null || a < b;
        if (one.kind == 1) return a == one.b;
        if (one.kind == 3) return a % one.b == 0;
        if (b == null || c == null) return true;
        return BigInteger.valueOf(a).add(BigInteger.valueOf(b)).equals(BigInteger.valueOf(c));
    }

    // the working record

    int set(int slot, int round, int value) {
        needIndex(slot(slot) && in(round, 0, 2));
        Integer before = value == NOTHING
                ? record.remove(new Cell(slot, round)) : record.put(new Cell(slot, round), value);
        return before == null ? NOTHING : before;
    }

    int get(int slot, int round) {
        needIndex(slot(slot) && in(round, 0, 2));
        return record.getOrDefault(new Cell(slot, round), NOTHING);
    }

    int message(int description) {
        return broken(need(description), record);
    }

    // printing, into a text; null if a record cannot be printed

    private static String word(int value) {
        StringBuilder text = new StringBuilder();
        if (value < 0 || value >= 1 << 25) return null;
        boolean behind = false;
        for (int i = 0; i < 5; i++) {
            int letter = value / (1 << 5 * i) % 32;
            if (letter > 27 || behind && letter > 0) return null;
            if (letter == 0) behind = true;
            else text.append(letter == 27 ? FACE : String.valueOf((char) (96 + letter)));
        }
        return text.toString();
    }

    private static String number(int value, int width, int form) {
        if (value < 0) return null;
        String digits = Integer.toString(value);
        if (form / 3 > 0) digits = digits.replaceAll("\\B(?=(\\d{3})+$)", form / 3 == 1 ? "," : ".");
        if (digits.length() > width) return null;
        return String.valueOf(" 0*".charAt(form % 3)).repeat(width - digits.length()) + digits;
    }

    private static String bits(int value, int width) {
        if (value < 0 || value >= Math.pow(2, width)) return null;
        String binary = "00000000" + Integer.toBinaryString(value);
        String low = binary.substring(binary.length() - width);
        return new StringBuilder(low).reverse().toString().replace('1', 'x').replace('0', '-');
    }

    private static String itemText(Item item, int value) {
        switch (item.kind) {
            case 0: return number(value, item.b, item.c);
            case 1: {
                String text = word(value);
                if (text == null || text.length() > item.b) return null;
                return text + String.valueOf(" .a".charAt(item.c)).repeat(item.b - text.length());
            }
            case 2: return word(value) == null ? null : word(value) + (char) item.b;
            case 3: return bits(value, item.b);
            default: return in(value, 0, 3) ? Integer.toString(value) : null;
        }
    }

    private static char checkDigit(String ahead) {
        String digits = ahead.replaceAll("[^0-9]", "");
        int sum = 0;
        for (int i = 0; i < digits.length(); i++) sum += (i % 2 == 0 ? 1 : 3) * (digits.charAt(i) - '0');
        return (char) ('0' + sum % 10);
    }

    private static String itemWithoutSlot(Item item, String ahead, Map<Integer, Integer> starts) {
        if (item.kind == 4) return String.valueOf(checkDigit(ahead));
        if (item.kind == 5) return String.valueOf((char) item.a);
        Integer start = starts.get(item.a);
        return start == null || start > 99 ? null : String.format("%02d", start);
    }

    private static String printed(Description told, Map<Cell, Integer> from) {
        StringBuilder text = new StringBuilder();
        Map<Cell, Integer> seen = new HashMap<>();
        Map<Integer, Integer> starts = new HashMap<>();
        List<Item> items = told.items;
        int i = 0;
        while (i < items.size()) {
            Item item = items.get(i);
            Integer teller = seen.get(new Cell(item.a, 0));
            List<Item> part = List.of(item);
            int times = 1;
            if (item.kind == 7 || item.kind == 8) {
                part = items.subList(i + 1, i + 1 + item.b);
                if (item.kind == 7) times = teller == null || !in(teller, 1, 3) ? 0 : teller;
                else times = teller != null && teller == item.c ? 1 : 0;
                i += item.b;
            }
            i++;
            for (int round = 0; round < times; round++) {
                for (Item one : part) {
                    String units;
                    if (one.owns()) {
                        Integer value = from.get(new Cell(one.a, round));
                        if (value == null) return null;
                        units = itemText(one, value);
                        starts.putIfAbsent(one.a, text.length());
                        seen.put(new Cell(one.a, round), value);
                    } else {
                        units = itemWithoutSlot(one, text.toString(), starts);
                    }
                    if (units == null) return null;
                    text.append(units);
                }
            }
        }
        return text.length() > 60 ? null : text.toString();
    }

    // readings, by recursion; each way is made of what itemText() prints for a value

    private static final class TooFar extends RuntimeException {
        private static final long serialVersionUID = 1;
    }

    private final class Search {
        final List<Item> items;
        final String text;
        final Consumer<Reading> found;
        final int start;
        int begun = 0;

        Search(Description told, int file, int place, Consumer<Reading> found) {
            items = told.items;
            text = texts[file].toString();
            start = place;
            this.found = found;
        }

        /** From an item on, with the rest of the rounds of the loop that it is in. */
        void go(int at, int loop, int round, Map<Cell, Integer> values, Map<Integer, Integer> starts, int end) {
            if (loop >= 0 && at > loop + items.get(loop).b) {
                int times = values.get(new Cell(items.get(loop).a, 0));
                if (round + 1 < times) go(loop + 1, loop, round + 1, values, starts, end);
                else go(at, -1, 0, values, starts, end);
                return;
            }
            if (at == items.size()) {
                found.accept(new Reading(new HashMap<>(values), end));
                return;
            }
            begun++;
            if (begun > 400) throw new TooFar();
            Item item = items.get(at);
            Integer told = values.get(new Cell(item.a, 0));
            if (item.kind == 7) {
                if (told == null || !in(told, 1, 3)) go(at + 1 + item.b, -1, 0, values, starts, end);
                else go(at + 1, at, 0, values, starts, end);
            } else if (item.kind == 8) {
                go(told != null && told == item.c ? at + 1 : at + 1 + item.b, -1, 0, values, starts, end);
            } else if (!item.owns()) {
                String units = itemWithoutSlot(item, text.substring(start, end), starts);
                if (fits(units, end)) go(at + 1, loop, round, values, starts, end + units.length());
            } else {
                for (int value : candidates(item, end)) {
                    String units = itemText(item, value);
                    if (!fits(units, end)) continue;
                    Map<Cell, Integer> with = new HashMap<>(values);
                    with.put(new Cell(item.a, round), value);
                    Map<Integer, Integer> begins = new HashMap<>(starts);
                    begins.putIfAbsent(item.a, end - start);
                    go(at + 1, loop, round, with, begins, end + units.length());
                }
            }
        }

        boolean fits(String units, int end) {
            return units != null && text.startsWith(units, end) && end + units.length() - start <= 60;
        }

        List<Integer> candidates(Item item, int end) {
            List<Integer> all = new ArrayList<>();
            if (item.kind == 3 || item.kind == 6) {
                for (int i = 0; i < 256; i++) all.add(i);
            } else if (item.kind == 0) {
                String digits = text.substring(end, Math.min(text.length(), end + item.b)).replaceAll("[^0-9]", "");
                if (!digits.isEmpty()) all.add(Integer.parseInt(digits));
            } else {
                int word = 0;
                int place = end;
                all.add(0);
                for (int i = 0; i < 5; i++) {
                    int letter = 0;
                    if (text.startsWith(FACE, place)) letter = 27;
                    else if (place < text.length() && in(text.charAt(place), 'a', 'z')) letter = text.charAt(place) - 96;
                    if (letter == 0) break;
                    word += letter * (1 << 5 * i);
                    place += letter == 27 ? 2 : 1;
                    all.add(word);
                }
                if (item.kind == 1) Collections.reverse(all);
            }
            return all;
        }
    }

    /** Tells whether it took too far. */
    private boolean search(Description told, int file, int place, Consumer<Reading> found) {
        try {
            new Search(told, file, place, found).go(0, -1, 0, new HashMap<>(), new HashMap<>(), place);
            return false;
        } catch (TooFar e) {
            return true;
        }
    }

    // samples

    private final class Drawing {
        final Description told;
        long seed;
        int tries = 0;
        Map<Cell, Integer> result = null;

        Drawing(Description told, int seed) {
            this.told = told;
            this.seed = seed;
        }

        /** The cells that have values, or are due, in their order; it stops at the first that has none yet. */
        Map<Cell, Item> cells(Map<Cell, Integer> values) {
            Map<Cell, Item> all = new LinkedHashMap<>();
            int i = 0;
            while (i < told.items.size()) {
                Item item = told.items.get(i);
                Integer teller = values.get(new Cell(item.a, 0));
                List<Item> part = List.of(item);
                int times = 1;
                if (item.kind >= 7 && item.kind <= 8) {
                    part = told.items.subList(i + 1, i + 1 + item.b);
                    times = teller == null ? 0 : item.kind == 7 ? teller : teller == item.c ? 1 : 0;
                    i += item.b;
                }
                i++;
                for (int round = 0; round < times; round++) {
                    for (Item one : part) {
                        if (!one.owns()) continue;
                        Cell cell = new Cell(one.a, round);
                        all.put(cell, one);
                        if (!values.containsKey(cell)) return all;
                    }
                }
            }
            return all;
        }

        boolean done(Map<Cell, Integer> values) {
            Cell due = null;
            Item item = null;
            for (Map.Entry<Cell, Item> entry : cells(values).entrySet()) {
                if (!values.containsKey(entry.getKey())) {
                    due = entry.getKey();
                    item = entry.getValue();
                }
            }
            if (due == null) {
                if (printed(told, values) == null) return false;
                result = values;
                return true;
            }
            seed = (1103515245L * seed + 12345) % (1L << 31);
            long number = seed / 65536;
            List<Integer> can = new ArrayList<>();
            int most = item.kind == 0 ? 9 : item.kind == 6 ? 3 : item.kind == 3 ? 7 : 27;
            for (int v = 0; v <= most; v++) {
                if (itemText(item, v) != null) can.add(v);
            }
            for (int i = 0; i < can.size(); i++) {
                if (tries == 500) throw new TooFar();
                tries++;
                Map<Cell, Integer> with = new HashMap<>(values);
                with.put(due, can.get((int) ((number + i) % can.size())));
                if (broken(told, with) == 0 && done(with)) return true;
            }
            return false;
        }
    }

    boolean sample(int description, int seed) {
        Description told = need(description);
        needArgument(in(seed, 0, 1000000));
        Drawing drawing = new Drawing(told, seed);
        try {
            if (!drawing.done(new HashMap<>())) return false;
        } catch (TooFar e) {
            return false;
        }
        record = drawing.result;
        return true;
    }

    // files

    private void needFile(int file) {
        needIndex(in(file, 0, 1));
    }

    int type(int file, int four) {
        needFile(file);
        StringBuilder typed = new StringBuilder();
        long rest = four & 0xFFFFFFFFL;
        while (rest > 0) {
            long unit = rest % 256;
            needArgument(unit == 10 || unit >= 32 && unit <= 126);
            typed.append((char) unit);
            rest /= 256;
        }
        needArgument(typed.length() > 0);
        return append(file, typed.toString());
    }

    private int append(int file, String units) {
        needState(!closed[file] && texts[file].length() + units.length() <= 300);
        texts[file].append(units);
        return texts[file].length();
    }

    int print(int description, int file) {
        Description told = need(description);
        needFile(file);
        String text = printed(told, record);
        needState(text != null);
        return append(file, text + "\n");
    }

    boolean close(int file) {
        needFile(file);
        boolean open = !closed[file];
        closed[file] = true;
        return open;
    }

    char unit(int file, int place) {
        needFile(file);
        needIndex(in(place, 0, texts[file].length() - 1));
        return texts[file].charAt(place);
    }

    int readings(int description, int file, int place) {
        Description told = need(description);
        needFile(file);
        needIndex(in(place, 0, texts[file].length()));
        int[] count = new int[1];
        boolean far = search(told, file, place, reading -> count[0]++);
        return far ? -1 : Math.min(99, count[0]);
    }

    int read(int description, int file, int place, int index) {
        Description told = need(description);
        needFile(file);
        needIndex(in(place, 0, texts[file].length()) && index >= 0);
        List<Reading> all = new ArrayList<>();
        search(told, file, place, all::add);
        needIndex(index < all.size());
        record = new HashMap<>(all.get(index).values);
        return all.get(index).end;
    }

    // streams

    int stream(int file, int description) {
        needFile(file);
        need(description);
        int before = streams[file] == null ? 0 : streams[file].place;
        streams[file] = new Stream();
        streams[file].description = description;
        return before;
    }

    int step(int file) {
        needFile(file);
        Stream stream = streams[file];
        needState(stream != null);
        String text = texts[file].toString();
        int end = text.indexOf('\n', stream.place);
        if (end < 0 && !closed[file]) return -1;
        if (stream.place == text.length()) return -2;
        needState(stream.rows.size() < 24);
        int stop = end < 0 ? text.length() : end;
        Description told = descriptions.get(stream.description);
        List<Reading> there = new ArrayList<>();
        boolean far = search(told, file, stream.place, reading -> {
            if (reading.end == stop) there.add(reading);
        });
        List<Map<Cell, Integer>> right = new ArrayList<>();
        for (Reading reading : there) {
            if (broken(told, reading.values) == 0) right.add(reading.values);
        }
        int behind = end < 0 ? stop : end + 1;
        int from = stream.place;
        stream.place = behind;
        if (!far && !right.isEmpty()) {
            stream.rows.add(right.get(0));
            for (Map<Cell, Integer> other : right) {
                if (!other.equals(right.get(0))) {
                    stream.doubts++;
                    break;
                }
            }
            return 1;
        }
        int why = far ? 100 : there.isEmpty() ? 0 : broken(told, there.get(0).values);
        stream.ledger.add(1000000 * why + 1000 * from + behind);
        return 0;
    }

    int progress(int file) {
        needFile(file);
        Stream stream = streams[file];
        if (stream == null) return 0;
        return 10000 * stream.rows.size() + 1000 * Math.min(9, stream.doubts) + stream.place;
    }

    int skipped(int file, int entry) {
        needFile(file);
        needIndex(streams[file] != null && in(entry, 0, streams[file].ledger.size() - 1));
        return streams[file].ledger.get(entry);
    }

    private List<Map<Cell, Integer>> rows(int file) {
        needFile(file);
        return streams[file] == null ? List.of() : streams[file].rows;
    }

    int cell(int file, int row, int slot, int round) {
        needIndex(in(row, 0, rows(file).size() - 1) && slot(slot) && in(round, 0, 2));
        return rows(file).get(row).getOrDefault(new Cell(slot, round), NOTHING);
    }

    int take(int file, int row) {
        needIndex(in(row, 0, rows(file).size() - 1));
        record = new HashMap<>(rows(file).get(row));
        return record.size();
    }

    // columns

    int column(int file, int kind, int slot, int window) {
        needFile(file);
        needIndex(slot(slot));
        needArgument(in(kind, 0, 3) && in(window, 1, 5));
        needState(columns.size() < 6);
        columns.add(new Column(file, kind, slot, window));
        return columns.size() - 1;
    }

    private Integer key(int file, int row, int slot) {
        List<Map<Cell, Integer>> rows = rows(file);
        return in(row, 0, rows.size() - 1) ? rows.get(row).get(new Cell(slot, 0)) : null;
    }

    int derived(int column, int row) {
        needIndex(in(column, 0, columns.size() - 1));
        Column told = columns.get(column);
        needIndex(in(row, 0, rows(told.file).size() - 1));
        Integer here = key(told.file, row, told.slot);
        Integer ahead = key(told.file, row - 1, told.slot);
        Integer earlier = key(told.file, row - told.window, told.slot);
        if (told.kind == 0) return earlier == null ? NOTHING : earlier;
        if (told.kind == 3) return here == null || ahead == null ? NOTHING : here - ahead;
        List<Integer> there = new ArrayList<>();
        for (int r = row - told.window + 1; r <= row; r++) {
            Integer value = key(told.file, r, told.slot);
            if (value != null) there.add(value);
        }
        if (there.isEmpty()) return NOTHING;
        return told.kind == 2 ? Collections.max(there) : there.stream().mapToInt(v -> v).sum();
    }

    // upgrades

    int change(int kind, int to, int a, int b) {
        needIndex(slot(to) && (kind == 1 || slot(a)) && (kind != 4 || slot(b)));
        needArgument(in(kind, 0, 4));
        if (kind == 0) needArgument(b == 0);
        if (kind == 1) needArgument(in(a, -999, 999) && b == 0);
        if (kind == 2) needArgument(in(b, -999, 999));
        if (kind == 3) needArgument(in(b, 2, 9));
        Part[] made = {new Slot(a), new Plain(a), new Sum(new Slot(a), b), new Multiple(new Slot(a), b),
            new Join(new Slot(a), new Slot(b))};
        upgradeDraft.put(to, made[kind]);
        return upgradeDraft.size();
    }

    int upgrade() {
        needState(upgrades.size() < 8);
        upgrades.add(upgradeDraft);
        upgradeDraft = new TreeMap<>();
        return upgrades.size() - 1;
    }

    private TreeMap<Integer, Part> needUpgrade(int upgrade) {
        needIndex(in(upgrade, 0, upgrades.size() - 1));
        return upgrades.get(upgrade);
    }

    private static int size(Part part) {
        if (part instanceof Sum s) return 1 + size(s.of);
        if (part instanceof Multiple m) return 1 + size(m.of);
        if (part instanceof Quotient q) return 1 + size(q.of);
        if (part instanceof Rest r) return 1 + size(r.of);
        if (part instanceof Join j) return 1 + size(j.first) + size(j.second);
        return 1;
    }

    private static int size(TreeMap<Integer, Part> all) {
        int size = 0;
        for (Part part : all.values()) size += size(part);
        return size;
    }

    private int keepUpgrade(TreeMap<Integer, Part> made) {
        if (made == null || size(made) > 60) return -1;
        upgrades.add(made);
        return upgrades.size() - 1;
    }

    private static Part within(Part part, TreeMap<Integer, Part> first) {
        if (part instanceof Slot s) return first.get(s.slot);
        if (part instanceof Plain) return part;
        if (part instanceof Join j) {
            Part one = within(j.first, first);
            Part two = within(j.second, first);
            return one == null || two == null ? null : new Join(one, two);
        }
        Part of = part instanceof Sum s ? s.of : part instanceof Multiple m ? m.of
                : part instanceof Quotient q ? q.of : ((Rest) part).of;
        Part inner = within(of, first);
        if (inner == null) return null;
        if (part instanceof Sum s) return new Sum(inner, s.number);
        if (part instanceof Multiple m) return new Multiple(inner, m.number);
        if (part instanceof Quotient q) return new Quotient(inner, q.number);
        return new Rest(inner, ((Rest) part).number);
    }

    int compose(int first, int then) {
        TreeMap<Integer, Part> inner = needUpgrade(first);
        TreeMap<Integer, Part> outer = needUpgrade(then);
        needState(upgrades.size() < 8);
        TreeMap<Integer, Part> made = new TreeMap<>();
        outer.forEach((to, part) -> {
            Part put = within(part, inner);
            if (put != null) made.put(to, put);
        });
        return keepUpgrade(made);
    }

    /** Tells whether it can be reversed. */
    private static boolean back(Part part, Part from, TreeMap<Integer, Part> made) {
        if (part instanceof Quotient || part instanceof Rest) return false;
        if (part instanceof Slot s) made.putIfAbsent(s.slot, from);
        if (part instanceof Sum s) return back(s.of, new Sum(from, -s.number), made);
        if (part instanceof Multiple m) return back(m.of, new Quotient(from, m.number), made);
        if (part instanceof Join j) {
            return back(j.first, new Quotient(from, 100), made) && back(j.second, new Rest(from, 100), made);
        }
        return true;
    }

    int reverse(int upgrade) {
        TreeMap<Integer, Part> told = needUpgrade(upgrade);
        needState(upgrades.size() < 8);
        TreeMap<Integer, Part> made = new TreeMap<>();
        for (int slot : told.keySet()) {
            if (!back(told.get(slot), new Slot(slot), made)) return -1;
        }
        return keepUpgrade(made);
    }

    private BigInteger value(Part part) {
        BigInteger value;
        if (part == null) return null;
        if (part instanceof Slot s) {
            Integer told = record.get(new Cell(s.slot, 0));
            value = told == null ? null : BigInteger.valueOf(told);
        } else if (part instanceof Plain p) {
            value = BigInteger.valueOf(p.number);
        } else if (part instanceof Join j) {
            BigInteger one = value(j.first);
            BigInteger two = value(j.second);
            value = one == null || two == null ? null : one.multiply(BigInteger.valueOf(100)).add(two);
        } else {
            value = worked(part);
        }
        boolean fits = value != null && value.bitLength() < 32 && !value.equals(BigInteger.valueOf(NOTHING));
        return fits ? value : null;
    }

    private BigInteger worked(Part part) {
        if (part instanceof Sum s) {
            BigInteger of = value(s.of);
            return of == null ? null : of.add(BigInteger.valueOf(s.number));
        }
        if (part instanceof Multiple m) {
            BigInteger of = value(m.of);
            return of == null ? null : of.multiply(BigInteger.valueOf(m.number));
        }
        if (part instanceof Rest r) {
            BigInteger of = value(r.of);
            return of == null ? null : of.mod(BigInteger.valueOf(r.number));
        }
        Quotient q = (Quotient) part;
        BigInteger of = value(q.of);
        if (of == null) return null;
        BigInteger by = BigInteger.valueOf(q.number);
        return of.subtract(of.mod(by)).divide(by);
    }

    int upgraded(int upgrade, int slot) {
        needUpgrade(upgrade);
        needIndex(slot(slot));
        BigInteger value = value(needUpgrade(upgrade).get(slot));
        return value == null ? NOTHING : value.intValueExact();
    }

    int parts(int upgrade) {
        return size(needUpgrade(upgrade));
    }

    // comparing and finding

    private Map<Integer, Map<Cell, Integer>> byKey(int file, int slot) {
        Map<Integer, Map<Cell, Integer>> all = new HashMap<>();
        for (Map<Cell, Integer> row : rows(file)) {
            Integer key = row.get(new Cell(slot, 0));
            if (key != null) all.put(key, row);
        }
        return all;
    }

    int compare(int slot) {
        needIndex(slot(slot));
        Map<Integer, Map<Cell, Integer>> zero = byKey(0, slot);
        Map<Integer, Map<Cell, Integer>> one = byKey(1, slot);
        int answer = 0;
        for (Integer key : zero.keySet()) {
            if (!one.containsKey(key)) answer += 100;
            else if (!one.get(key).equals(zero.get(key))) answer++;
        }
        for (Integer key : one.keySet()) {
            if (!zero.containsKey(key)) answer += 10000;
        }
        return answer;
    }

    int find(int file, int slot, int value, int place) {
        needFile(file);
        needIndex(slot(slot) && place >= 0);
        int found = 0;
        for (int row = 0; row < rows(file).size(); row++) {
            Integer key = key(file, row, slot);
            if (key != null && key == value && found++ == place) return row;
        }
        return -1;
    }
}
