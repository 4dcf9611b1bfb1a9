/** A compiler of record notations: the numbered promises of ../shared/DOC.md say what each call does. */
public final class NotationPress {
    public static final int NOTHING = Integer.MIN_VALUE;
    public static final int READ = 1, SKIPPED = 0, WAITS = -1, ENDED = -2;

    private static final int SLOTS = 8;
    private static final int ROUNDS = 3;
    private static final int CELLS = SLOTS * ROUNDS;
    private static final int FILES = 2;
    private static final int MOST_ITEMS = 14;
    private static final int MOST_DESCRIPTIONS = 6;
    private static final int MOST_CONSTRAINTS = 8;
    private static final int MOST_COLUMNS = 6;
    private static final int MOST_UPGRADES = 8;
    private static final int MOST_PARTS = 60;
    private static final int MOST_ROWS = 24;
    private static final int MOST_FILE_UNITS = 300;
    private static final int MOST_UNITS = 60;
    private static final int MOST_LETTERS = 5;
    private static final int MOST_WIDTH = 8;
    private static final int MOST_BEGUN = 400;
    private static final int MOST_TRIES = 500;
    private static final int MOST_SEED = 1000000;
    private static final int MOST_TOLD_READINGS = 99;
    private static final int MOST_TOLD_DOUBTS = 9;
    private static final int TOO_FAR = 100;

    /** Far above the steps that 14 items with loops of three rounds can take. */
    private static final int MOST_STEPS = 200;
    /** Far above what 400 begun items can lead to, six ways each. */
    private static final int MOST_WAYS = 10000;

    private static final int LINE_END = 10;
    private static final int FACE = 27;
    private static final int FACE_HIGH = 0xD83D;
    private static final int FACE_LOW = 0xDE00;

    private static final int NO_KIND = -1;
    private static final int NO_SLOT = -1;
    private static final int NO_UNIT = -1;
    private static final int NO_ROW = -1;

    private static final int NUMBER = 0, WORD = 1, OPEN = 2, BITS = 3, CHECK = 4;
    private static final int SIGN = 5, COUNT = 6, LOOP = 7, CASE = 8, BACK = 9;

    private static final int LESS = 0, EQUAL = 1, ADDED = 2, DIVISIBLE = 3;

    private static final int EARLIER = 0, TOTAL = 1, GREATEST = 2, DIFFERENCE = 3;
    private static final int MOST_WINDOW = 5;

    private static final int OLD_SLOT = 0, PLAIN = 1, SUM = 2, MULTIPLE = 3, JOIN = 4, QUOTIENT = 5, REST = 6;
    private static final int JOINED = 100;
    private static final int MOST_STEP_NUMBER = 999;

    private final Items draft = new Items();
    private final Description[] descriptions = new Description[MOST_DESCRIPTIONS];
    private int descriptionCount;
    private final int[] record = emptyCells();
    private final Text[] files = new Text[FILES];
    private final Table[] tables = new Table[FILES];
    private final Printer printer = new Printer();
    private final Reader reader = new Reader();
    private final Sampler sampler = new Sampler();
    private final Column[] columns = new Column[MOST_COLUMNS];
    private int columnCount;
    private final UpgradeDraft upgradeDraft = new UpgradeDraft();
    private final Upgrade[] upgrades = new Upgrade[MOST_UPGRADES];
    private int upgradeCount;

    public NotationPress() {
        for (int i = 0; i < descriptions.length; i++) descriptions[i] = new Description();
        for (int i = 0; i < files.length; i++) files[i] = new Text();
        for (int i = 0; i < tables.length; i++) tables[i] = new Table();
        for (int i = 0; i < columns.length; i++) columns[i] = new Column();
        for (int i = 0; i < upgrades.length; i++) upgrades[i] = new Upgrade();
    }

    // ---- descriptions

    public int item(int kind, int a, int b, int c)
            throws IndexOutOfBoundsException, IllegalArgumentException, IllegalStateException {
        if (Items.tellsSlot(kind) && !isSlot(a)) throw new IndexOutOfBoundsException("no such slot");
        if (!Items.inRange(kind, a, b, c)) throw new IllegalArgumentException("no such item");
        if (draft.isFull()) throw new IllegalStateException("the draft is full");
        draft.add(kind, a, b, c);
        return draft.count;
    }

    public int dropItems() {
        int dropped = draft.count;
        draft.clear();
        return dropped;
    }

    public int description() throws IllegalStateException {
        if (descriptionCount >= descriptions.length) throw new IllegalStateException("no more descriptions");
        Description made = descriptions[descriptionCount];
        if (made == null || !draft.isDescription()) return -1;
        made.items.copyFrom(draft);
        draft.clear();
        descriptionCount++;
        return descriptionCount - 1;
    }

    public int sure(int description) throws IndexOutOfBoundsException {
        Description told = descriptionOf(description);
        if (told == null) throw new IndexOutOfBoundsException("no such description");
        return told.items.firstUnsure();
    }

    public int constrain(int description, int kind, int a, int b, int c, int message)
            throws IndexOutOfBoundsException, IllegalArgumentException, IllegalStateException {
        Description told = descriptionOf(description);
        if (told == null) throw new IndexOutOfBoundsException("no such description");
        if (!Description.tellsSlots(kind, a, b, c)) throw new IndexOutOfBoundsException("no such slot");
        if (!told.allows(kind, a, b, c) || message < 1 || message > 99) {
            throw new IllegalArgumentException("no such constraint");
        }
        if (told.isFull()) throw new IllegalStateException("no more constraints");
        told.add(kind, a, b, c, message);
        return told.count;
    }

    // ---- the working record

    public int set(int slot, int round, int value) throws IndexOutOfBoundsException {
        if (!isCell(slot, round)) throw new IndexOutOfBoundsException("no such slot or round");
        int before = at(record, cellPlace(slot, round), NOTHING);
        put(record, cellPlace(slot, round), value);
        return before;
    }

    public int get(int slot, int round) throws IndexOutOfBoundsException {
        if (!isCell(slot, round)) throw new IndexOutOfBoundsException("no such slot or round");
        return at(record, cellPlace(slot, round), NOTHING);
    }

    public int message(int description) throws IndexOutOfBoundsException {
        Description told = descriptionOf(description);
        if (told == null) throw new IndexOutOfBoundsException("no such description");
        return told.firstBroken(record);
    }

    public boolean sample(int description, int seed) throws IndexOutOfBoundsException, IllegalArgumentException {
        Description told = descriptionOf(description);
        if (told == null) throw new IndexOutOfBoundsException("no such description");
        if (seed < 0 || seed > MOST_SEED) throw new IllegalArgumentException("no such seed");
        Trace found = sampler.search(told, seed, printer);
        if (found == null) return false;
        copyCells(found.values, 0, record, 0, CELLS);
        return true;
    }

    // ---- files

    public int type(int file, int four)
            throws IndexOutOfBoundsException, IllegalArgumentException, IllegalStateException {
        Text text = fileOf(file);
        if (text == null) throw new IndexOutOfBoundsException("no such file");
        int typed = charactersIn(four);
        if (typed == 0) throw new IllegalArgumentException("no such characters");
        if (!text.takes(typed)) throw new IllegalStateException("the file takes no more");
        for (int i = 0; i < typed; i++) text.append((four >>> (8 * i)) & 255);
        return text.length;
    }

    public int print(int description, int file) throws IndexOutOfBoundsException, IllegalStateException {
        Description told = descriptionOf(description);
        Text text = fileOf(file);
        if (told == null) throw new IndexOutOfBoundsException("no such description");
        if (text == null) throw new IndexOutOfBoundsException("no such file");
        if (!printer.canPrint(told.items, record)) throw new IllegalStateException("no record to be printed");
        int printed = printer.length();
        if (!text.takes(printed + 1)) throw new IllegalStateException("the file takes no more");
        for (int i = 0; i < printed; i++) text.append(printer.unitAt(i));
        text.append(LINE_END);
        return text.length;
    }

    public boolean close(int file) throws IndexOutOfBoundsException {
        Text text = fileOf(file);
        if (text == null) throw new IndexOutOfBoundsException("no such file");
        boolean wasOpen = text.open;
        text.open = false;
        return wasOpen;
    }

    public char unit(int file, int place) throws IndexOutOfBoundsException {
        Text text = fileOf(file);
        if (text == null) throw new IndexOutOfBoundsException("no such file");
        int told = text.unitAt(place);
        if (told == NO_UNIT) throw new IndexOutOfBoundsException("no such unit");
        return (char) told;
    }

    public int readings(int description, int file, int place) throws IndexOutOfBoundsException {
        Description told = descriptionOf(description);
        Text text = fileOf(file);
        if (told == null) throw new IndexOutOfBoundsException("no such description");
        if (text == null || !text.hasPlace(place)) throw new IndexOutOfBoundsException("no such file or place");
        int found = 0;
        reader.begin(told.items, text, place);
        for (int i = 0; i < MOST_WAYS && reader.goToNext(); i++) found++;
        return reader.tooFar ? -1 : Math.min(found, MOST_TOLD_READINGS);
    }

    public int readingsAnew(int description, int file, int place) throws IndexOutOfBoundsException {
        Description told = descriptionOf(description);
        Text text = fileOf(file);
        if (told == null) throw new IndexOutOfBoundsException("no such description");
        if (text == null || !text.hasPlace(place)) throw new IndexOutOfBoundsException("no such file or place");
        reader.begin(told.items, text, place);
        return Math.min(reader.countItemByItem(), MOST_TOLD_READINGS);
    }

    public int read(int description, int file, int place, int index) throws IndexOutOfBoundsException {
        Description told = descriptionOf(description);
        Text text = fileOf(file);
        if (told == null) throw new IndexOutOfBoundsException("no such description");
        if (text == null || !text.hasPlace(place)) throw new IndexOutOfBoundsException("no such file or place");
        if (index < 0) throw new IndexOutOfBoundsException("no such reading");
        int found = -1;
        reader.begin(told.items, text, place);
        for (int i = 0; i < MOST_WAYS && found < index && reader.goToNext(); i++) found++;
        if (found < index) throw new IndexOutOfBoundsException("no such reading");
        copyCells(reader.current.values, 0, record, 0, CELLS);
        return place + reader.current.length;
    }

    // ---- streams

    public int stream(int file, int description) throws IndexOutOfBoundsException {
        Table table = tableOf(file);
        Description told = descriptionOf(description);
        if (table == null) throw new IndexOutOfBoundsException("no such file");
        if (told == null) throw new IndexOutOfBoundsException("no such description");
        int before = table.place;
        table.restart(told);
        return before;
    }

    public int step(int file) throws IndexOutOfBoundsException, IllegalStateException {
        Text text = fileOf(file);
        Table table = tableOf(file);
        if (text == null || table == null) throw new IndexOutOfBoundsException("no such file");
        Description told = table.description;
        if (told == null) throw new IllegalStateException("no stream");
        int end = text.endOfLine(table.place);
        if (end < 0) return text.open ? WAITS : ENDED;
        if (table.isFull()) throw new IllegalStateException("no more rows");
        table.beginLine();
        reader.begin(told.items, text, table.place);
        for (int i = 0; i < MOST_WAYS && reader.goToNext(); i++) {
            if (table.place + reader.current.length == end) table.weigh(reader.current.values);
        }
        return table.endLine(reader.tooFar, Math.min(end + 1, text.length)) ? READ : SKIPPED;
    }

    public int progress(int file) throws IndexOutOfBoundsException {
        Table table = tableOf(file);
        if (table == null) throw new IndexOutOfBoundsException("no such file");
        return 10000 * table.rowCount + 1000 * Math.min(table.doubts, MOST_TOLD_DOUBTS) + table.place;
    }

    public int skipped(int file, int entry) throws IndexOutOfBoundsException {
        Table table = tableOf(file);
        if (table == null) throw new IndexOutOfBoundsException("no such file");
        if (entry < 0 || entry >= table.skippedCount) throw new IndexOutOfBoundsException("no such entry");
        return at(table.ledger, entry, 0);
    }

    public int cell(int file, int row, int slot, int round) throws IndexOutOfBoundsException {
        Table table = tableOf(file);
        if (table == null || !table.hasRow(row)) throw new IndexOutOfBoundsException("no such file or row");
        if (!isCell(slot, round)) throw new IndexOutOfBoundsException("no such slot or round");
        return table.told(row, cellPlace(slot, round));
    }

    public int take(int file, int row) throws IndexOutOfBoundsException {
        Table table = tableOf(file);
        if (table == null || !table.hasRow(row)) throw new IndexOutOfBoundsException("no such file or row");
        copyCells(table.rows, row * CELLS, record, 0, CELLS);
        int values = 0;
        for (int i = 0; i < record.length; i++) {
            if (record[i] != NOTHING) values++;
        }
        return values;
    }

    // ---- columns

    public int column(int file, int kind, int slot, int window)
            throws IndexOutOfBoundsException, IllegalArgumentException, IllegalStateException {
        Table table = tableOf(file);
        if (table == null || !isSlot(slot)) throw new IndexOutOfBoundsException("no such file or slot");
        if (kind < EARLIER || kind > DIFFERENCE) throw new IllegalArgumentException("no such kind");
        if (window < 1 || window > MOST_WINDOW) throw new IllegalArgumentException("no such window");
        if (columnCount >= columns.length) throw new IllegalStateException("no more columns");
        Column made = columns[columnCount];
        if (made == null) throw new IllegalStateException("no more columns");
        made.become(table, kind, slot, window);
        columnCount++;
        return columnCount - 1;
    }

    public int derived(int column, int row) throws IndexOutOfBoundsException {
        Column told = columnOf(column);
        if (told == null || !told.hasRow(row)) throw new IndexOutOfBoundsException("no such column or row");
        return told.fromRow(row);
    }

    public int derivedByBatch(int column, int row) throws IndexOutOfBoundsException {
        Column told = columnOf(column);
        if (told == null || !told.hasRow(row)) throw new IndexOutOfBoundsException("no such column or row");
        return told.fromBatch(row);
    }

    // ---- upgrades

    public int change(int kind, int to, int a, int b) throws IndexOutOfBoundsException, IllegalArgumentException {
        boolean slotsThere = isSlot(to) && (kind == PLAIN || isSlot(a)) && (kind != JOIN || isSlot(b));
        if (!slotsThere) throw new IndexOutOfBoundsException("no such slot");
        if (!UpgradeDraft.inRange(kind, a, b)) throw new IllegalArgumentException("no such step");
        upgradeDraft.add(kind, to, a, b);
        return upgradeDraft.size();
    }

    public int upgrade() throws IllegalStateException {
        Upgrade made = nextUpgrade();
        if (made == null) throw new IllegalStateException("no more upgrades");
        made.buildFrom(upgradeDraft);
        upgradeDraft.clear();
        upgradeCount++;
        return upgradeCount - 1;
    }

    public int compose(int first, int then) throws IndexOutOfBoundsException, IllegalStateException {
        Upgrade inner = upgradeOf(first);
        Upgrade outer = upgradeOf(then);
        if (inner == null || outer == null) throw new IndexOutOfBoundsException("no such upgrade");
        Upgrade made = nextUpgrade();
        if (made == null) throw new IllegalStateException("no more upgrades");
        if (!made.buildComposed(inner, outer)) return -1;
        upgradeCount++;
        return upgradeCount - 1;
    }

    public int reverse(int upgrade) throws IndexOutOfBoundsException, IllegalStateException {
        Upgrade told = upgradeOf(upgrade);
        if (told == null) throw new IndexOutOfBoundsException("no such upgrade");
        Upgrade made = nextUpgrade();
        if (made == null) throw new IllegalStateException("no more upgrades");
        if (!made.buildReversed(told)) return -1;
        upgradeCount++;
        return upgradeCount - 1;
    }

    public int upgraded(int upgrade, int slot) throws IndexOutOfBoundsException {
        Upgrade told = upgradeOf(upgrade);
        if (told == null || !isSlot(slot)) throw new IndexOutOfBoundsException("no such upgrade or slot");
        return told.valueFor(slot, record);
    }

    public int parts(int upgrade) throws IndexOutOfBoundsException {
        Upgrade told = upgradeOf(upgrade);
        if (told == null) throw new IndexOutOfBoundsException("no such upgrade");
        return told.length;
    }

    // ---- comparing and finding

    public int compare(int slot) throws IndexOutOfBoundsException {
        Table zero = tableOf(0);
        Table one = tableOf(1);
        if (zero == null || one == null || !isSlot(slot)) throw new IndexOutOfBoundsException("no such slot");
        return 10000 * one.keysNotIn(zero, slot) + 100 * zero.keysNotIn(one, slot) + zero.keysThatDiffer(one, slot);
    }

    public int find(int file, int slot, int value, int place) throws IndexOutOfBoundsException {
        Table table = tableOf(file);
        if (table == null || !isSlot(slot)) throw new IndexOutOfBoundsException("no such file or slot");
        if (place < 0) throw new IndexOutOfBoundsException("no such place");
        return table.rowByIndex(slot, value, place);
    }

    public int findAnew(int file, int slot, int value, int place) throws IndexOutOfBoundsException {
        Table table = tableOf(file);
        if (table == null || !isSlot(slot)) throw new IndexOutOfBoundsException("no such file or slot");
        if (place < 0) throw new IndexOutOfBoundsException("no such place");
        return table.rowByLooking(slot, value, place);
    }

    // ---- what a number tells, null where there is no such thing

    private Description descriptionOf(int number) {
        boolean there = number >= 0 && number < descriptionCount && number < descriptions.length;
        return there ? descriptions[number] : null;
    }

    private Text fileOf(int number) {
        return number >= 0 && number < files.length ? files[number] : null;
    }

    private Table tableOf(int file) {
        return file >= 0 && file < tables.length ? tables[file] : null;
    }

    private Column columnOf(int number) {
        return number >= 0 && number < columnCount && number < columns.length ? columns[number] : null;
    }

    private Upgrade upgradeOf(int number) {
        return number >= 0 && number < upgradeCount && number < upgrades.length ? upgrades[number] : null;
    }

    private Upgrade nextUpgrade() {
        return upgradeCount >= 0 && upgradeCount < upgrades.length ? upgrades[upgradeCount] : null;
    }

    // ---- rows of numbers, with each index looked at

    private static int at(int[] row, int place, int otherwise) {
        return place >= 0 && place < row.length ? row[place] : otherwise;
    }

    private static void put(int[] row, int place, int value) {
        if (place >= 0 && place < row.length) row[place] = value;
    }

    private static void fillAll(int[] row, int value) {
        for (int i = 0; i < row.length; i++) row[i] = value;
    }

    private static void copyCells(int[] from, int fromPlace, int[] to, int toPlace, int count) {
        if (count < 0 || fromPlace < 0 || toPlace < 0) return;
        if (fromPlace > from.length - count || toPlace > to.length - count) return;
        System.arraycopy(from, fromPlace, to, toPlace, count);
    }

    private static int[] emptyCells() {
        int[] cells = new int[CELLS];
        fillAll(cells, NOTHING);
        return cells;
    }

    private static boolean isSlot(int slot) {
        return slot >= 0 && slot < SLOTS;
    }

    private static boolean isCell(int slot, int round) {
        return isSlot(slot) && round >= 0 && round < ROUNDS;
    }

    private static int cellPlace(int slot, int round) {
        return slot * ROUNDS + round;
    }

    private static boolean isBetween(int value, int least, int most) {
        return value >= least && value <= most;
    }

    private static boolean isDigit(int unit) {
        return unit >= '0' && unit <= '9';
    }

    // ---- characters and words

    /** How many characters a number of type() tells; 0 if it tells none, or one that may not be typed. */
    private static int charactersIn(int four) {
        int count = 0;
        for (int rest = four; rest != 0 && count < 4; rest >>>= 8) {
            int unit = rest & 255;
            if (unit != LINE_END && !isBetween(unit, 32, 126)) return 0;
            count++;
        }
        return count;
    }

    private static boolean isWord(int value) {
        int rest = value;
        for (int i = 0; i < MOST_LETTERS && rest != 0; i++) {
            if (!isBetween(rest & 31, 1, FACE)) return false;
            rest >>>= 5;
        }
        return rest == 0;
    }

    private static int unitsOfLetter(int letter) {
        return letter == FACE ? 2 : 1;
    }

    private static int unitsOfWord(int word) {
        int units = 0;
        int rest = word;
        for (int i = 0; i < MOST_LETTERS && rest != 0; i++) {
            units += unitsOfLetter(rest & 31);
            rest >>>= 5;
        }
        return units;
    }

    private static int fillOfNumber(int form) {
        return form % 3 == 0 ? ' ' : form % 3 == 1 ? '0' : '*';
    }

    private static int fillOfWord(int form) {
        return form == 0 ? ' ' : form == 1 ? '.' : 'a';
    }

    /** Lays a number out over the first units of a row, from the right; tells whether it fits. */
    private static boolean layOutNumber(int value, int width, int form, int[] out) {
        if (value < 0 || width < 1 || width > out.length) return false;
        int mark = form / 3 == 1 ? ',' : '.';
        int rest = value;
        int digits = 0;
        int place = width - 1;
        for (; place >= 0 && (digits == 0 || rest > 0); place--) {
            if (form >= 3 && digits > 0 && digits % 3 == 0) {
                out[place] = mark;
                place--;
            }
            if (place < 0) return false;
            out[place] = '0' + rest % 10;
            rest /= 10;
            digits++;
        }
        for (; place >= 0; place--) out[place] = fillOfNumber(form);
        return rest == 0;
    }

    /** The items of a draft or of a description. */
    private static final class Items {
        private final int[] kinds = new int[MOST_ITEMS];
        private final int[] firsts = new int[MOST_ITEMS];
        private final int[] seconds = new int[MOST_ITEMS];
        private final int[] thirds = new int[MOST_ITEMS];
        private int count;

        static boolean tellsSlot(int kind) {
            return kind >= NUMBER && kind <= BACK && kind != CHECK && kind != SIGN;
        }

        static boolean inRange(int kind, int a, int b, int c) {
            switch (kind) {
                case NUMBER: return isBetween(b, 1, MOST_WIDTH) && isBetween(c, 0, 8) && (c < 3 || c % 3 != 1);
                case WORD: return isBetween(b, 1, 9) && isBetween(c, 0, 2);
                case OPEN: return isBetween(b, 33, 126) && c == 0;
                case BITS: return isBetween(b, 1, 8) && c == 0;
                case CHECK: return a == 0 && b == 0 && c == 0;
                case SIGN: return isBetween(a, 32, 126) && b == 0 && c == 0;
                case LOOP: return isBetween(b, 1, 3) && c == 0;
                case CASE: return isBetween(b, 1, 3) && isBetween(c, 0, 99);
                case COUNT:
                case BACK: return b == 0 && c == 0;
                default: return false;
            }
        }

        boolean isFull() {
            return count >= MOST_ITEMS;
        }

        void clear() {
            count = 0;
        }

        void add(int kind, int a, int b, int c) {
            put(kinds, count, kind);
            put(firsts, count, a);
            put(seconds, count, b);
            put(thirds, count, c);
            count++;
        }

        void copyFrom(Items other) {
            clear();
            for (int i = 0; i < other.count; i++) add(other.kind(i), other.a(i), other.b(i), other.c(i));
        }

        int kind(int item) {
            return item < count ? at(kinds, item, NO_KIND) : NO_KIND;
        }

        int a(int item) {
            return at(firsts, item, 0);
        }

        int b(int item) {
            return at(seconds, item, 0);
        }

        int c(int item) {
            return at(thirds, item, 0);
        }

        /** Whether an item has a slot of its own; LOOP, CASE and BACK only tell that of another one. */
        boolean hasSlot(int item) {
            int kind = kind(item);
            return kind == NUMBER || kind == WORD || kind == OPEN || kind == BITS || kind == COUNT;
        }

        boolean embraces(int item) {
            return kind(item) == LOOP || kind(item) == CASE;
        }

        /** The first item that has a slot, as many as "count" if there is none. */
        int itemOf(int slot) {
            for (int i = 0; i < count; i++) {
                if (hasSlot(i) && a(i) == slot) return i;
            }
            return count;
        }

        boolean isInLoop(int item) {
            for (int i = 0; i < item && i < count; i++) {
                if (kind(i) == LOOP && item <= i + b(i)) return true;
            }
            return false;
        }

        boolean isDescription() {
            for (int i = 0; i < count; i++) {
                if (hasSlot(i) && itemOf(a(i)) != i) return false;
                if (embraces(i) && !(isBodySound(i) && isTellerSound(i))) return false;
            }
            return count > 0;
        }

        private boolean isBodySound(int item) {
            int last = item + b(item);
            if (last >= count) return false;
            for (int i = item + 1; i <= last && i < count; i++) {
                if (embraces(i)) return false;
            }
            return true;
        }

        private boolean isTellerSound(int item) {
            int teller = itemOf(a(item));
            if (teller >= item || isInLoop(teller)) return false;
            int kind = kind(teller);
            return kind == COUNT || kind(item) == CASE && (kind == NUMBER || kind == BITS);
        }

        int firstUnsure() {
            for (int i = 0; i < count; i++) {
                if (kind(i) == WORD && fillOfWord(c(i)) == 'a') return i;
                if (kind(i) == OPEN && isBetween(b(i), 'a', 'z')) return i;
            }
            return -1;
        }

        boolean canBeConstrained(int slot) {
            int item = itemOf(slot);
            int kind = kind(item);
            return kind != WORD && kind != OPEN && !(item < count && isInLoop(item));
        }
    }

    /** The items of a description with its constraints. */
    private static final class Description {
        private final Items items = new Items();
        private final int[] kinds = new int[MOST_CONSTRAINTS];
        private final int[] firsts = new int[MOST_CONSTRAINTS];
        private final int[] seconds = new int[MOST_CONSTRAINTS];
        private final int[] thirds = new int[MOST_CONSTRAINTS];
        private final int[] messages = new int[MOST_CONSTRAINTS];
        private int count;

        static boolean tellsSlots(int kind, int a, int b, int c) {
            boolean second = kind == LESS || kind == ADDED;
            return isSlot(a) && (!second || isSlot(b)) && (kind != ADDED || isSlot(c));
        }

        boolean allows(int kind, int a, int b, int c) {
            if (!items.canBeConstrained(a)) return false;
            switch (kind) {
                case LESS: return items.canBeConstrained(b) && c == 0;
                case EQUAL: return isBetween(b, 0, 999) && c == 0;
                case ADDED: return items.canBeConstrained(b) && items.canBeConstrained(c);
                case DIVISIBLE: return isBetween(b, 1, 99) && c == 0;
                default: return false;
            }
        }

        boolean isFull() {
            return count >= MOST_CONSTRAINTS;
        }

        void add(int kind, int a, int b, int c, int message) {
            put(kinds, count, kind);
            put(firsts, count, a);
            put(seconds, count, b);
            put(thirds, count, c);
            put(messages, count, message);
            count++;
        }

        /** The message of the first constraint that values break, 0 if none is broken. */
        int firstBroken(int[] values) {
            for (int i = 0; i < count; i++) {
                if (!holds(i, values)) return at(messages, i, 0);
            }
            return 0;
        }

        private boolean holds(int constraint, int[] values) {
            int second = at(seconds, constraint, 0);
            int a = valueOf(at(firsts, constraint, NO_SLOT), values);
            if (a == NOTHING) return true;
            switch (at(kinds, constraint, NO_KIND)) {
                case LESS: return valueOf(second, values) == NOTHING || a < valueOf(second, values);
                case EQUAL: return a == second;
                case ADDED: return isSum(a, valueOf(second, values), valueOf(at(thirds, constraint, NO_SLOT), values));
                case DIVISIBLE: return second == 0 || a % second == 0;
                default: return true;
            }
        }

        private static boolean isSum(int a, int b, int c) {
            return b == NOTHING || c == NOTHING || (long) a + (long) b == (long) c;
        }

        private static int valueOf(int slot, int[] values) {
            return isSlot(slot) ? at(values, cellPlace(slot, 0), NOTHING) : NOTHING;
        }
    }

    /** A record as far as it has been printed, read or drawn, with the place among the items where it stands. */
    private static final class Trace {
        private final int[] values = emptyCells();
        private final int[] starts = new int[SLOTS];
        private int item;
        private int loop;
        private int times;
        private int round;
        private int length;
        private int digits;
        private int digitSum;

        void restart() {
            fillAll(values, NOTHING);
            fillAll(starts, -1);
            item = 0;
            leaveLoop();
            length = 0;
            digits = 0;
            digitSum = 0;
        }

        void copyFrom(Trace other) {
            copyCells(other.values, 0, values, 0, CELLS);
            copyCells(other.starts, 0, starts, 0, SLOTS);
            item = other.item;
            loop = other.loop;
            times = other.times;
            round = other.round;
            length = other.length;
            digits = other.digits;
            digitSum = other.digitSum;
        }

        boolean isOver(Items items) {
            return item >= items.count;
        }

        void keep(int slot, int value) {
            if (isCell(slot, round)) put(values, cellPlace(slot, round), value);
        }

        /** Notes where the item of a slot begins, but for later rounds. */
        void begin(int slot) {
            if (startOf(slot) < 0) put(starts, slot, length);
        }

        int startOf(int slot) {
            return at(starts, slot, -1);
        }

        void append(int unit) {
            length++;
            if (!isDigit(unit)) return;
            digits++;
            digitSum += (digits % 2 == 1 ? 1 : 3) * (unit - '0');
        }

        int checkDigit() {
            return '0' + digitSum % 10;
        }

        /** Goes on behind an item that is no LOOP and no CASE: to the next one, or to the next round. */
        void finish(Items items) {
            item++;
            if (loop < 0 || item <= loop + items.b(loop)) return;
            if (round + 1 < times) {
                round++;
                item = loop + 1;
            } else {
                leaveLoop();
            }
        }

        /** Goes on from a LOOP or a CASE: into the items that it has, or behind them. */
        void enter(Items items) {
            int told = at(values, cellPlace(items.a(item), 0), NOTHING);
            boolean isLoop = items.kind(item) == LOOP;
            boolean taken = isLoop ? isBetween(told, 1, ROUNDS) : told == items.c(item);
            if (taken && isLoop) {
                loop = item;
                times = told;
                round = 0;
            }
            item += taken ? 1 : 1 + items.b(item);
        }

        private void leaveLoop() {
            loop = -1;
            times = 0;
            round = 0;
        }
    }

    /** Prints a record into a row of units. */
    private static final class Printer {
        private final int[] units = new int[MOST_UNITS];
        private final int[] number = new int[MOST_WIDTH];
        private final Trace trace = new Trace();

        int length() {
            return trace.length;
        }

        int unitAt(int place) {
            return at(units, place, 0);
        }

        boolean canPrint(Items items, int[] record) {
            trace.restart();
            for (int i = 0; i < MOST_STEPS && !trace.isOver(items); i++) {
                if (items.embraces(trace.item)) {
                    trace.enter(items);
                } else {
                    boolean written = items.hasSlot(trace.item) ? printSlot(items, record) : printSign(items);
                    if (!written) return false;
                    trace.finish(items);
                }
            }
            return trace.isOver(items);
        }

        private boolean printSign(Items items) {
            int a = items.a(trace.item);
            switch (items.kind(trace.item)) {
                case CHECK: return write(trace.checkDigit());
                case SIGN: return write(a);
                case BACK: return writePlace(trace.startOf(a));
                default: return false;
            }
        }

        private boolean printSlot(Items items, int[] record) {
            int slot = items.a(trace.item);
            int value = at(record, cellPlace(slot, trace.round), NOTHING);
            if (value == NOTHING) return false;
            trace.begin(slot);
            trace.keep(slot, value);
            int b = items.b(trace.item);
            int c = items.c(trace.item);
            switch (items.kind(trace.item)) {
                case NUMBER: return writeNumber(value, b, c);
                case WORD: return writeWord(value, b) && writeFills(fillOfWord(c), b - unitsOfWord(value));
                case OPEN: return writeWord(value, MOST_UNITS) && write(b);
                case BITS: return writeBits(value, b);
                case COUNT: return isBetween(value, 0, ROUNDS) && write('0' + value);
                default: return false;
            }
        }

        private boolean write(int unit) {
            if (trace.length < 0 || trace.length >= units.length) return false;
            units[trace.length] = unit;
            trace.append(unit);
            return true;
        }

        private boolean writeNumber(int value, int width, int form) {
            if (!layOutNumber(value, width, form, number)) return false;
            for (int i = 0; i < width; i++) {
                if (!write(at(number, i, 0))) return false;
            }
            return true;
        }

        private boolean writeWord(int word, int width) {
            if (!isWord(word) || unitsOfWord(word) > width) return false;
            int rest = word;
            for (int i = 0; i < MOST_LETTERS && rest != 0; i++) {
                int letter = rest & 31;
                boolean written = letter == FACE ? write(FACE_HIGH) && write(FACE_LOW) : write('a' + letter - 1);
                if (!written) return false;
                rest >>>= 5;
            }
            return true;
        }

        private boolean writeFills(int fill, int count) {
            for (int i = 0; i < count; i++) {
                if (!write(fill)) return false;
            }
            return true;
        }

        private boolean writeBits(int value, int width) {
            if (value < 0 || value >= 1 << width) return false;
            for (int i = 0; i < width; i++) {
                if (!write((value >> i & 1) == 1 ? 'x' : '-')) return false;
            }
            return true;
        }

        private boolean writePlace(int place) {
            return isBetween(place, 0, 99) && write('0' + place / 10) && write('0' + place % 10);
        }
    }

    /** Goes through the readings of a text, with the beginnings of readings that are to be gone on with. */
    private static final class Reader {
        private final Trace[] beginnings = new Trace[MOST_BEGUN + MOST_LETTERS + 2];
        private final Trace current = new Trace();
        private final int[] number = new int[MOST_WIDTH];
        private final int[] words = new int[MOST_LETTERS + 1];
        private final int[] wordEnds = new int[MOST_LETTERS + 1];
        private Items items = new Items();
        private Text text = new Text();
        private int place;
        private int kept;
        private int begun;
        private boolean tooFar;

        Reader() {
            for (int i = 0; i < beginnings.length; i++) beginnings[i] = new Trace();
        }

        /** Begins with the readings from a place: goToNext() goes to each, the first one at first. */
        void begin(Items told, Text from, int start) {
            items = told;
            text = from;
            place = start;
            begun = 0;
            tooFar = false;
            Trace first = beginningAt(0);
            if (first != null) first.restart();
            kept = first == null ? 0 : 1;
        }

        /** Goes on, with the latest beginning first, until the current one is a whole reading. */
        boolean goToNext() {
            for (int i = 0; i < MOST_WAYS && kept > 0 && !tooFar; i++) {
                kept--;
                Trace next = beginningAt(kept);
                if (next == null) return false;
                current.copyFrom(next);
                if (current.isOver(items)) return true;
                begun++;
                tooFar = begun > MOST_BEGUN;
                if (!tooFar) branch();
            }
            return false;
        }

        /** How many readings there are, -1 if it takes too far; the beginnings are kept in a row, none is given up. */
        int countItemByItem() {
            int found = 0;
            for (int i = 0; i < kept && kept <= MOST_BEGUN; i++) {
                Trace next = beginningAt(i);
                if (next == null) return -1;
                current.copyFrom(next);
                int before = kept;
                branch();
                // All ways to take one item stand at the same item behind it: all are whole readings, or none.
                Trace last = beginningAt(kept - 1);
                if (kept > before && last != null && last.isOver(items)) {
                    found += kept - before;
                    kept = before;
                }
            }
            return kept > MOST_BEGUN ? -1 : found;
        }

        private Trace beginningAt(int number) {
            return number >= 0 && number < beginnings.length ? beginnings[number] : null;
        }

        /** Keeps all ways to go on by one item, the first one last, so that it is the next one to be gone on with. */
        private void branch() {
            switch (items.kind(current.item)) {
                case NUMBER: readNumber(); break;
                case WORD: readWord(); break;
                case OPEN: readOpen(); break;
                case BITS: readBits(); break;
                case COUNT: readCount(); break;
                case SIGN: readUnit(items.a(current.item)); break;
                case CHECK: readUnit(current.checkDigit()); break;
                case BACK: readPlace(current.startOf(items.a(current.item))); break;
                default: enter(); break;
            }
        }

        private void enter() {
            Trace next = beginningAt(kept);
            if (next == null) return;
            next.copyFrom(current);
            next.enter(items);
            kept++;
        }

        private int ahead(int offset) {
            return text.unitAt(place + current.length + offset);
        }

        /** Keeps the way on which the item takes so many units and, if it has a slot, tells that value for it. */
        private void keepWay(int slot, int value, int taken) {
            Trace next = beginningAt(kept);
            if (next == null || current.length + taken > MOST_UNITS) return;
            next.copyFrom(current);
            if (slot != NO_SLOT) {
                next.begin(slot);
                next.keep(slot, value);
            }
            for (int i = 0; i < taken; i++) next.append(ahead(i));
            next.finish(items);
            kept++;
        }

        private void readNumber() {
            int width = items.b(current.item);
            int value = 0;
            for (int i = 0; i < width; i++) {
                if (isDigit(ahead(i))) value = 10 * value + ahead(i) - '0';
            }
            if (!layOutNumber(value, width, items.c(current.item), number)) return;
            for (int i = 0; i < width; i++) {
                if (ahead(i) != at(number, i, 0)) return;
            }
            keepWay(items.a(current.item), value, width);
        }

        private void readWord() {
            int width = items.b(current.item);
            int fill = fillOfWord(items.c(current.item));
            int slot = items.a(current.item);
            int letters = gatherWords(width);
            for (int i = 0; i <= letters; i++) {
                if (areFills(at(wordEnds, i, width), width, fill)) keepWay(slot, at(words, i, 0), width);
            }
        }

        private boolean areFills(int from, int to, int fill) {
            for (int i = from; i < to; i++) {
                if (ahead(i) != fill) return false;
            }
            return true;
        }

        private void readOpen() {
            int sign = items.b(current.item);
            int slot = items.a(current.item);
            for (int i = gatherWords(MOST_UNITS); i >= 0; i--) {
                int end = at(wordEnds, i, MOST_UNITS);
                if (ahead(end) == sign) keepWay(slot, at(words, i, 0), end + 1);
            }
        }

        /** Gathers the words that the units ahead begin with, by the number of letters, which it tells the most of. */
        private int gatherWords(int width) {
            put(words, 0, 0);
            put(wordEnds, 0, 0);
            for (int i = 0; i < MOST_LETTERS; i++) {
                int end = at(wordEnds, i, 0);
                int letter = letterAhead(end);
                int behind = end + unitsOfLetter(letter);
                if (letter == 0 || behind > width) return i;
                put(words, i + 1, at(words, i, 0) | letter << (5 * i));
                put(wordEnds, i + 1, behind);
            }
            return MOST_LETTERS;
        }

        private int letterAhead(int offset) {
            int unit = ahead(offset);
            if (isBetween(unit, 'a', 'z')) return unit - 'a' + 1;
            return unit == FACE_HIGH && ahead(offset + 1) == FACE_LOW ? FACE : 0;
        }

        private void readBits() {
            int width = items.b(current.item);
            int value = 0;
            for (int i = 0; i < width; i++) {
                if (ahead(i) == 'x') value |= 1 << i;
                else if (ahead(i) != '-') return;
            }
            keepWay(items.a(current.item), value, width);
        }

        private void readCount() {
            int value = ahead(0) - '0';
            if (isBetween(value, 0, ROUNDS)) keepWay(items.a(current.item), value, 1);
        }

        private void readUnit(int unit) {
            if (ahead(0) == unit) keepWay(NO_SLOT, 0, 1);
        }

        private void readPlace(int start) {
            if (!isBetween(start, 0, 99)) return;
            if (ahead(0) == '0' + start / 10 && ahead(1) == '0' + start % 10) keepWay(NO_SLOT, 0, 2);
        }
    }

    /** Draws samples: a level for each value, with the record ahead of it and what was drawn for it. */
    private static final class Sampler {
        private final Trace[] levels = new Trace[CELLS + 2];
        private final int[] drawn = new int[CELLS + 2];
        private final int[] tried = new int[CELLS + 2];
        private int seed;
        private int depth;

        Sampler() {
            for (int i = 0; i < levels.length; i++) levels[i] = new Trace();
        }

        /** The record that is found, null if there is none. */
        Trace search(Description told, int start, Printer printer) {
            Items items = told.items;
            Trace level = levelAt(0);
            if (level == null) return null;
            seed = start;
            depth = 0;
            level.restart();
            comeTo(items, level);
            int tries = 0;
            // Each round is a try, or goes back behind one.
            for (int i = 0; i <= 3 * MOST_TRIES && level != null; i++) {
                int choices = choicesOf(items, level.item);
                if (level.isOver(items) && printer.canPrint(items, level.values)) return level;
                if (level.isOver(items) || at(tried, depth, choices) >= choices) {
                    depth--;
                } else {
                    tries++;
                    if (tries > MOST_TRIES) return null;
                    tryNext(told, level, choices);
                }
                level = levelAt(depth);
            }
            return null;
        }

        private Trace levelAt(int number) {
            return number >= 0 && number < levels.length ? levels[number] : null;
        }

        private void tryNext(Description told, Trace level, int choices) {
            Trace next = levelAt(depth + 1);
            if (next == null || choices < 1) return;
            int value = (at(drawn, depth, 0) + at(tried, depth, 0)) % choices;
            put(tried, depth, at(tried, depth, 0) + 1);
            next.copyFrom(level);
            next.keep(told.items.a(level.item), value);
            if (told.firstBroken(next.values) != 0) return;
            next.finish(told.items);
            depth++;
            comeTo(told.items, next);
        }

        /** Goes on to the next item with a slot, if there is one, and draws for it. */
        private void comeTo(Items items, Trace level) {
            for (int i = 0; i < MOST_STEPS && !level.isOver(items) && !items.hasSlot(level.item); i++) {
                if (items.embraces(level.item)) level.enter(items);
                else level.finish(items);
            }
            int choices = choicesOf(items, level.item);
            if (level.isOver(items) || choices < 1) return;
            seed = (int) ((1103515245L * seed + 12345L) & 0x7FFFFFFFL);
            put(drawn, depth, seed / 65536 % choices);
            put(tried, depth, 0);
        }

        /** The values that can be tried are all from 0 on: this tells how many they are. */
        private static int choicesOf(Items items, int item) {
            switch (items.kind(item)) {
                case NUMBER: return 10;
                case COUNT: return ROUNDS + 1;
                case BITS: return items.b(item) == 1 ? 2 : items.b(item) == 2 ? 4 : 8;
                case WORD: return items.b(item) < unitsOfLetter(FACE) ? FACE : FACE + 1;
                case OPEN: return FACE + 1;
                default: return 0;
            }
        }
    }

    /** The units of a file. */
    private static final class Text {
        private final char[] units = new char[MOST_FILE_UNITS];
        private int length;
        private boolean open = true;

        boolean hasPlace(int place) {
            return place >= 0 && place <= length;
        }

        int unitAt(int place) {
            return place >= 0 && place < length && place < units.length ? units[place] : NO_UNIT;
        }

        boolean takes(int more) {
            return open && length + more <= MOST_FILE_UNITS;
        }

        void append(int unit) {
            if (length < 0 || length >= units.length) return;
            units[length] = (char) unit;
            length++;
        }

        /** Where the line ends that begins at a place; -1 if it is not there yet, or there is none. */
        int endOfLine(int place) {
            for (int i = Math.max(place, 0); i < length; i++) {
                if (unitAt(i) == LINE_END) return i;
            }
            return open || place >= length ? -1 : length;
        }
    }

    /** What the stream of a file has: its rows with their index, and the ledger of what it skipped. */
    private static final class Table {
        private static final int BUCKETS = 32;

        private final int[] rows = new int[MOST_ROWS * CELLS];
        private final int[] ledger = new int[MOST_FILE_UNITS];
        private final int[] bucketFirst = new int[SLOTS * BUCKETS];
        private final int[] bucketLast = new int[SLOTS * BUCKETS];
        private final int[] nextInBucket = new int[SLOTS * MOST_ROWS];
        private Description description;
        private int place;
        private int rowCount;
        private int doubts;
        private int skippedCount;
        private int right;
        private int why;

        Table() {
            fillAll(bucketFirst, NO_ROW);
            fillAll(bucketLast, NO_ROW);
        }

        void restart(Description by) {
            description = by;
            place = 0;
            rowCount = 0;
            doubts = 0;
            skippedCount = 0;
            fillAll(bucketFirst, NO_ROW);
            fillAll(bucketLast, NO_ROW);
        }

        boolean isFull() {
            return rowCount >= MOST_ROWS;
        }

        boolean hasRow(int row) {
            return row >= 0 && row < rowCount;
        }

        int told(int row, int cell) {
            return hasRow(row) ? at(rows, row * CELLS + cell, NOTHING) : NOTHING;
        }

        /** What a row has in a slot, round 0. */
        int key(int row, int slot) {
            return told(row, cellPlace(slot, 0));
        }

        void beginLine() {
            right = 0;
            why = 0;
        }

        /** Looks at a reading of the whole line: the first right one is laid behind the rows. */
        void weigh(int[] values) {
            int message = description == null ? 0 : description.firstBroken(values);
            if (message != 0) {
                if (why == 0) why = message;
                return;
            }
            if (right == 0) copyCells(values, 0, rows, rowCount * CELLS, CELLS);
            right++;
        }

        /** Tells whether the line has become a row; if not, the ledger has it. */
        boolean endLine(boolean tooFar, int behind) {
            boolean isRead = right > 0 && !tooFar;
            if (isRead) {
                rowCount++;
                if (right > 1) doubts++;
                for (int slot = 0; slot < SLOTS; slot++) addToIndex(slot, rowCount - 1);
            } else {
                put(ledger, skippedCount, 1000000 * (tooFar ? TOO_FAR : why) + 1000 * place + behind);
                skippedCount++;
            }
            place = behind;
            return isRead;
        }

        private static int bucketOf(int slot, int value) {
            return slot * BUCKETS + (value & (BUCKETS - 1));
        }

        private static int linkOf(int slot, int row) {
            return slot * MOST_ROWS + row;
        }

        private void addToIndex(int slot, int row) {
            int value = key(row, slot);
            if (value == NOTHING) return;
            int bucket = bucketOf(slot, value);
            int last = at(bucketLast, bucket, NO_ROW);
            if (last == NO_ROW) put(bucketFirst, bucket, row);
            else put(nextInBucket, linkOf(slot, last), row);
            put(bucketLast, bucket, row);
            put(nextInBucket, linkOf(slot, row), NO_ROW);
        }

        int rowByIndex(int slot, int value, int wanted) {
            if (value == NOTHING) return NO_ROW;
            int row = at(bucketFirst, bucketOf(slot, value), NO_ROW);
            int found = 0;
            for (int i = 0; i < MOST_ROWS && row != NO_ROW; i++) {
                if (key(row, slot) == value) {
                    if (found == wanted) return row;
                    found++;
                }
                row = at(nextInBucket, linkOf(slot, row), NO_ROW);
            }
            return NO_ROW;
        }

        int rowByLooking(int slot, int value, int wanted) {
            if (value == NOTHING) return NO_ROW;
            int found = 0;
            for (int row = 0; row < rowCount; row++) {
                if (key(row, slot) == value) {
                    if (found == wanted) return row;
                    found++;
                }
            }
            return NO_ROW;
        }

        private int lastRowOf(int slot, int value) {
            for (int row = rowCount - 1; row >= 0; row--) {
                if (key(row, slot) == value) return row;
            }
            return NO_ROW;
        }

        private boolean isLastOfKey(int row, int slot) {
            int value = key(row, slot);
            return value != NOTHING && lastRowOf(slot, value) == row;
        }

        int keysNotIn(Table other, int slot) {
            int keys = 0;
            for (int row = 0; row < rowCount; row++) {
                if (isLastOfKey(row, slot) && other.lastRowOf(slot, key(row, slot)) == NO_ROW) keys++;
            }
            return keys;
        }

        int keysThatDiffer(Table other, int slot) {
            int keys = 0;
            for (int row = 0; row < rowCount; row++) {
                if (!isLastOfKey(row, slot)) continue;
                int mate = other.lastRowOf(slot, key(row, slot));
                if (mate != NO_ROW && differs(row, other, mate)) keys++;
            }
            return keys;
        }

        private boolean differs(int row, Table other, int mate) {
            for (int i = 0; i < CELLS; i++) {
                if (told(row, i) != other.told(mate, i)) return true;
            }
            return false;
        }
    }

    /** A column over the rows of a table. */
    private static final class Column {
        private final int[] base = new int[MOST_ROWS];
        private final int[] values = new int[MOST_ROWS];
        private Table table = null;
        private int kind;
        private int slot;
        private int window;

        void become(Table over, int newKind, int newSlot, int newWindow) {
            table = over;
            kind = newKind;
            slot = newSlot;
            window = newWindow;
        }

        boolean hasRow(int row) {
            return table != null && table.hasRow(row);
        }

        private int told(int row) {
            return table == null ? NOTHING : table.key(row, slot);
        }

        int fromRow(int row) {
            if (kind == EARLIER) return told(row - window);
            if (kind == DIFFERENCE) return difference(told(row), told(row - 1));
            int result = NOTHING;
            for (int i = 0; i < window; i++) result = join(result, told(row - i));
            return result;
        }

        private static int difference(int value, int before) {
            return value == NOTHING || before == NOTHING ? NOTHING : value - before;
        }

        private int join(int result, int value) {
            if (result == NOTHING) return value;
            if (value == NOTHING) return result;
            return kind == TOTAL ? result + value : Math.max(result, value);
        }

        /** Finds the whole column with a mask of the rows without a value, a bit each, and tells one row of it. */
        int fromBatch(int row) {
            int missing = gatherBase();
            int mask;
            switch (kind) {
                case EARLIER: mask = shiftBatch(missing); break;
                case DIFFERENCE: mask = differBatch(missing); break;
                case TOTAL: mask = totalBatch(missing); break;
                default: mask = greatestBatch(missing); break;
            }
            return (mask >> row & 1) == 1 ? NOTHING : at(values, row, NOTHING);
        }

        private int gatherBase() {
            int missing = 0;
            for (int row = 0; row < base.length; row++) {
                base[row] = told(row);
                if (base[row] == NOTHING) missing |= 1 << row;
            }
            return missing;
        }

        /** The mask for the rows that are so many earlier; those ahead of the first one are missing. */
        private static int shifted(int missing, int rows) {
            return missing << rows | (1 << rows) - 1;
        }

        private int shiftBatch(int missing) {
            for (int row = 0; row < values.length; row++) values[row] = at(base, row - window, NOTHING);
            return shifted(missing, window);
        }

        private int differBatch(int missing) {
            for (int row = 0; row < values.length; row++) values[row] = at(base, row, 0) - at(base, row - 1, 0);
            return missing | shifted(missing, 1);
        }

        private int totalBatch(int missing) {
            fillAll(values, 0);
            int mask = -1;
            for (int back = 0; back < window; back++) {
                int gone = shifted(missing, back);
                for (int row = 0; row < values.length; row++) {
                    if ((gone >> row & 1) == 0) values[row] += at(base, row - back, 0);
                }
                mask &= gone;
            }
            return mask;
        }

        private int greatestBatch(int missing) {
            fillAll(values, NOTHING);
            int mask = -1;
            for (int back = 0; back < window; back++) {
                for (int row = 0; row < values.length; row++) {
                    values[row] = Math.max(values[row], at(base, row - back, NOTHING));
                }
                mask &= shifted(missing, back);
            }
            return mask;
        }
    }

    /** The steps of an upgrade that is not made yet, at most one for each slot. */
    private static final class UpgradeDraft {
        private final int[] kinds = new int[SLOTS];
        private final int[] firsts = new int[SLOTS];
        private final int[] seconds = new int[SLOTS];

        UpgradeDraft() {
            fillAll(kinds, NO_KIND);
        }

        static boolean inRange(int kind, int a, int b) {
            switch (kind) {
                case OLD_SLOT: return b == 0;
                case PLAIN: return isBetween(a, -MOST_STEP_NUMBER, MOST_STEP_NUMBER) && b == 0;
                case SUM: return isBetween(b, -MOST_STEP_NUMBER, MOST_STEP_NUMBER);
                case MULTIPLE: return isBetween(b, 2, 9);
                case JOIN: return isSlot(b);
                default: return false;
            }
        }

        void clear() {
            fillAll(kinds, NO_KIND);
        }

        void add(int kind, int to, int a, int b) {
            put(kinds, to, kind);
            put(firsts, to, a);
            put(seconds, to, b);
        }

        int size() {
            int steps = 0;
            for (int i = 0; i < kinds.length; i++) {
                if (kinds[i] != NO_KIND) steps++;
            }
            return steps;
        }
    }

    /** What an upgrade tells for its slots: rows of parts, slot by slot, each part ahead of what it is made of. */
    private static final class Upgrade {
        private final int[] kinds = new int[MOST_PARTS];
        private final int[] numbers = new int[MOST_PARTS];
        private final int[] ends = new int[SLOTS];
        private final int[] stack = new int[MOST_PARTS];
        private final int[] pathKinds = new int[MOST_PARTS];
        private final int[] pathNumbers = new int[MOST_PARTS];
        private int length;

        private int start(int slot) {
            return slot == 0 ? 0 : end(slot - 1);
        }

        private int end(int slot) {
            return at(ends, slot, 0);
        }

        private boolean tells(int slot) {
            return end(slot) > start(slot);
        }

        private int kind(int part) {
            return part < length ? at(kinds, part, NO_KIND) : NO_KIND;
        }

        private int number(int part) {
            return at(numbers, part, 0);
        }

        private void add(int kind, int number) {
            put(kinds, length, kind);
            put(numbers, length, number);
            length++;
        }

        void buildFrom(UpgradeDraft draft) {
            length = 0;
            for (int slot = 0; slot < SLOTS; slot++) {
                addStep(at(draft.kinds, slot, NO_KIND), at(draft.firsts, slot, 0), at(draft.seconds, slot, 0));
                put(ends, slot, length);
            }
        }

        private void addStep(int kind, int a, int b) {
            if (kind == NO_KIND) return;
            if (kind == SUM || kind == MULTIPLE) add(kind, b);
            if (kind == JOIN) add(JOIN, 0);
            add(kind == PLAIN ? PLAIN : OLD_SLOT, a);
            if (kind == JOIN) add(OLD_SLOT, b);
        }

        /** Tells whether it has not too many parts. */
        boolean buildComposed(Upgrade first, Upgrade then) {
            length = 0;
            for (int slot = 0; slot < SLOTS; slot++) {
                if (then.isMadeOf(first, slot)) addComposed(first, then, slot);
                put(ends, slot, length);
            }
            return length <= MOST_PARTS;
        }

        /** Whether all slots that are needed for a slot are told by the upgrade ahead. */
        private boolean isMadeOf(Upgrade first, int slot) {
            for (int i = start(slot); i < end(slot); i++) {
                if (kind(i) == OLD_SLOT && !first.tells(number(i))) return false;
            }
            return true;
        }

        private void addComposed(Upgrade first, Upgrade then, int slot) {
            for (int i = then.start(slot); i < then.end(slot); i++) {
                if (then.kind(i) == OLD_SLOT) addTold(first, then.number(i));
                else add(then.kind(i), then.number(i));
            }
        }

        private void addTold(Upgrade other, int slot) {
            for (int i = other.start(slot); i < other.end(slot); i++) add(other.kind(i), other.number(i));
        }

        /** Tells whether the other one can be reversed, and this has not too many parts. */
        boolean buildReversed(Upgrade other) {
            if (other.hasQuotientOrRest()) return false;
            length = 0;
            for (int slot = 0; slot < SLOTS; slot++) {
                addReversed(other, slot);
                put(ends, slot, length);
            }
            return length <= MOST_PARTS;
        }

        private boolean hasQuotientOrRest() {
            for (int i = 0; i < length; i++) {
                if (kind(i) == QUOTIENT || kind(i) == REST) return true;
            }
            return false;
        }

        /** Adds what takes an old slot back from the first of the other's slots that is made of it. */
        private void addReversed(Upgrade other, int oldSlot) {
            for (int slot = 0; slot < SLOTS; slot++) {
                int depth = findPath(other, slot, oldSlot);
                for (int i = depth - 1; i >= 0; i--) {
                    add(reversedKind(at(pathKinds, i, NO_KIND)), at(pathNumbers, i, 0));
                }
                if (depth >= 0) {
                    add(OLD_SLOT, slot);
                    return;
                }
            }
        }

        /**
         * Goes through the parts that a slot of the other one is made of, with the way back from the whole to each,
         * until the old slot is come to; tells how long the way is, -1 if it is not come to.
         */
        private int findPath(Upgrade other, int slot, int oldSlot) {
            int depth = 0;
            for (int i = other.start(slot); i < other.end(slot); i++) {
                int kind = other.kind(i);
                int number = other.number(i);
                if (kind == OLD_SLOT && number == oldSlot) return depth;
                if (kind == OLD_SLOT || kind == PLAIN) {
                    depth = turnToSecond(depth);
                } else {
                    put(pathKinds, depth, kind);
                    put(pathNumbers, depth, kind == SUM ? -number : kind == JOIN ? JOINED : number);
                    depth++;
                }
            }
            return -1;
        }

        /** Goes back to the last join whose first side was gone through, and on to its second side. */
        private int turnToSecond(int depth) {
            for (int i = depth - 1; i >= 0; i--) {
                if (at(pathKinds, i, NO_KIND) == JOIN) {
                    put(pathKinds, i, REST);
                    return i + 1;
                }
            }
            return 0;
        }

        private static int reversedKind(int kind) {
            return kind == MULTIPLE || kind == JOIN ? QUOTIENT : kind;
        }

        /** Goes through the parts from the last one, so that what a part is made of is there ahead of it. */
        int valueFor(int slot, int[] record) {
            int depth = 0;
            for (int i = end(slot) - 1; i >= start(slot); i--) {
                int kind = kind(i);
                if (kind == OLD_SLOT || kind == PLAIN) depth++;
                if (kind == JOIN) depth--;
                int top = at(stack, depth - 1, NOTHING);
                int value;
                if (kind == OLD_SLOT) value = at(record, cellPlace(number(i), 0), NOTHING);
                else if (kind == PLAIN) value = number(i);
                else if (kind == JOIN) value = joined(at(stack, depth, NOTHING), top);
                else value = worked(kind, number(i), top);
                put(stack, depth - 1, value);
            }
            return depth == 1 ? at(stack, 0, NOTHING) : NOTHING;
        }

        private static int joined(int first, int second) {
            if (first == NOTHING || second == NOTHING) return NOTHING;
            return fitted((long) JOINED * first + second);
        }

        private static int worked(int kind, int number, int value) {
            if (value == NOTHING) return NOTHING;
            if (kind == SUM) return fitted((long) value + number);
            if (kind == MULTIPLE) return fitted((long) value * number);
            if (number < 1) return NOTHING;
            return kind == QUOTIENT ? Math.floorDiv(value, number) : Math.floorMod(value, number);
        }

        private static int fitted(long value) {
            return value < Integer.MIN_VALUE || value > Integer.MAX_VALUE ? NOTHING : (int) value;
        }
    }
}
