import java.util.Arrays;

/** Record types, and tables of their records in a small memory of bytes, as ../shared/DOC.md tells. */
public final class RecordLayouts {
    /** There is no such thing. */
    public static final int NONE = -1;

    private static final int MAX_RECORDS = 6;
    private static final int MAX_FIELDS = 8;
    private static final int MAX_LEAVES = 40;
    private static final int MAX_COUNT = 4;
    private static final int MAX_TABLES = 3;
    private static final int MAX_ROWS = 12;
    private static final int MAX_LAYOUT = 8;
    private static final int MAX_TEXT = 80;
    private static final int MAX_SAVED = 4;
    private static final int MEMORY_BYTES = 1024;
    private static final int BASE_STEP = 16;
    private static final int TABLE_STEP = 8;
    private static final int SYNTAX_ERROR = -10;
    private static final long HASH_START = 1733;

    private static final int I8 = 0;
    private static final int I16 = 2;
    private static final int I32 = 4;
    private static final int I64 = 6;
    private static final int BOOL = 7;
    private static final int BITS = 20;
    private static final int NESTED = 100;
    private static final int UNIT_BITS = 16;
    private static final int UNIT_BYTES = 2;
    private static final int[] PLAIN_BYTES = {1, 1, 2, 2, 4, 4, 8, 1};

    private final State now = new State();
    private final Shape[] shapes = new Shape[MAX_RECORDS];
    private final State[] saved = new State[MAX_SAVED];
    private int oldestSaved;
    private int savedTotal;
    private final Text text = new Text();
    private final BestOrder best = new BestOrder();
    private int searchedRecord = NONE;
    private final View view = new View();
    private final View target = new View();
    private final Marks marks = new Marks();
    private final int[] rowOrder = new int[MAX_ROWS];
    private final long[] column = new long[MAX_ROWS];

    public RecordLayouts() {
        for (int i = 0; i < MAX_RECORDS; i++) {
            shapes[i] = new Shape();
        }
        for (int i = 0; i < MAX_SAVED; i++) {
            saved[i] = new State();
        }
    }

    // ---- records

    public int newRecord(int pack) throws IllegalArgumentException, IllegalStateException {
        checkPack(pack);
        checkRecordRoom();
        save();
        int record = now.records;
        now.fields[record].start(pack);
        now.records++;
        buildShape(record);
        return record;
    }

    public int addField(int record, int name, int type, int count)
            throws IndexOutOfBoundsException, IllegalArgumentException, IllegalStateException {
        checkRecord(record);
        Fields fields = now.fields[record];
        if (name < 'a' || name > 'z' || fields.hasName(name)) {
            throw new IllegalArgumentException("the name is out of range or taken");
        }
        if (!canBeTypeIn(record, type)) {
            throw new IllegalArgumentException("no field of the record can have this type");
        }
        if (count < 1 || count > (isBits(type) ? 1 : MAX_COUNT)) {
            throw new IllegalArgumentException("the count is out of range");
        }
        int leaves = shapes[record].leaves.total + count * leavesOfType(type);
        if (fields.total >= MAX_FIELDS || isInUse(record) || leaves > MAX_LEAVES) {
            throw new IllegalStateException("the record can take no such field");
        }
        save();
        fields.add(name, type, count);
        placeField(record, fields.total - 1);
        return fields.total;
    }

    public int records() {
        return now.records;
    }

    public int recordInfo(int record, int what) throws IndexOutOfBoundsException, IllegalArgumentException {
        checkRecord(record);
        checkWhat(what, 6);
        return recordNumber(record, what);
    }

    public int fieldInfo(int record, int field, int what)
            throws IndexOutOfBoundsException, IllegalArgumentException {
        checkRecord(record);
        if (field < 0 || field >= now.fields[record].total) {
            throw new IndexOutOfBoundsException("there is no such field");
        }
        checkWhat(what, 5);
        return fieldNumber(record, field, what);
    }

    public int leafInfo(int record, int leaf, int what)
            throws IndexOutOfBoundsException, IllegalArgumentException {
        checkLeafOfRecord(record, leaf);
        checkWhat(what, 3);
        Leaves leaves = shapes[record].leaves;
        switch (what) {
            case 0: return leaves.type[leaf];
            case 1: return leaves.offset[leaf];
            case 2: return leaves.bit[leaf];
            default: return leaves.field[leaf];
        }
    }

    public int pathByte(int record, int leaf, int index) throws IndexOutOfBoundsException {
        checkLeafOfRecord(record, leaf);
        return signOfPath(shapes[record].leaves.path[leaf], index);
    }

    public int findLeaf(int record) throws IndexOutOfBoundsException {
        checkRecord(record);
        Leaves leaves = shapes[record].leaves;
        for (int i = 0; i < leaves.total; i++) {
            if (isText(leaves.path[i])) {
                return i;
            }
        }
        return NONE;
    }

    public int bestSize(int record) throws IndexOutOfBoundsException {
        checkRecord(record);
        searchBest(record);
        return best.size;
    }

    public int bestOrder(int record, int position) throws IndexOutOfBoundsException {
        checkRecord(record);
        if (position < 0 || position >= now.fields[record].total) {
            throw new IndexOutOfBoundsException("there is no such position");
        }
        searchBest(record);
        return best.order[position];
    }

    // ---- texts

    public int append(int value) throws IllegalArgumentException, IllegalStateException {
        if (value < 0 || value > 127) {
            throw new IllegalArgumentException("the value is no byte of a text");
        }
        if (text.length >= MAX_TEXT) {
            throw new IllegalStateException("the text is full");
        }
        text.add(value);
        return text.length;
    }

    public int clearText() {
        int length = text.length;
        text.length = 0;
        return length;
    }

    public int define(int pack) throws IllegalArgumentException, IllegalStateException {
        checkPack(pack);
        checkRecordRoom();
        int error = text.readDefinition(shapes, now.records);
        if (error != NONE) {
            return SYNTAX_ERROR - error;
        }
        save();
        int record = now.records;
        now.fields[record].copyFrom(text.draft);
        now.fields[record].pack = pack;
        now.records++;
        buildShape(record);
        return record;
    }

    // ---- tables

    public int newTable(int record, int rows, int layout, int order)
            throws IndexOutOfBoundsException, IllegalArgumentException, IllegalStateException {
        checkRecord(record);
        if (rows < 1 || rows > MAX_ROWS) {
            throw new IllegalArgumentException("the number of rows is out of range");
        }
        checkLayout(layout);
        checkOrder(order);
        checkHasFields(record);
        int number = firstFreeTable();
        if (number == NONE) {
            throw new IllegalStateException("there are all tables already");
        }
        target.layOut(shapes[record], rows, layout);
        int base = findRoom(target.bytes);
        if (base == NONE) {
            throw new IllegalStateException("there is no room");
        }
        save();
        Table table = now.tables[number];
        table.live = true;
        table.record = record;
        table.rows = rows;
        table.layout = layout;
        table.order = order;
        table.base = base;
        table.bytes = target.bytes;
        clearMemory(base, target.bytes);
        return number;
    }

    public int removeTable(int table) throws IndexOutOfBoundsException {
        checkTable(table);
        save();
        now.tables[table].live = false;
        return now.tables[table].bytes;
    }

    public int tables() {
        int set = 0;
        for (int i = 0; i < MAX_TABLES; i++) {
            if (now.tables[i].live) {
                set |= 1 << i;
            }
        }
        return set;
    }

    public int tableInfo(int table, int what) throws IndexOutOfBoundsException, IllegalArgumentException {
        checkTable(table);
        checkWhat(what, 5);
        return tableNumber(table, what);
    }

    public int address(int table, int row, int leaf) throws IndexOutOfBoundsException {
        checkPlace(table, row, leaf);
        openView(table);
        return view.placeOf(row, leaf);
    }

    public long get(int table, int row, int leaf) throws IndexOutOfBoundsException {
        checkPlace(table, row, leaf);
        openView(table);
        return view.read(now.memory, row, leaf);
    }

    public long set(int table, int row, int leaf, long value) throws IndexOutOfBoundsException {
        checkPlace(table, row, leaf);
        save();
        openView(table);
        long before = view.read(now.memory, row, leaf);
        view.write(now.memory, row, leaf, value);
        return before;
    }

    public int memory(int address) throws IndexOutOfBoundsException {
        checkAddress(address);
        return now.memory[address] & 0xFF;
    }

    public int poke(int address, int value) throws IndexOutOfBoundsException, IllegalArgumentException {
        checkAddress(address);
        if (value < 0 || value > 255) {
            throw new IllegalArgumentException("the value is no byte");
        }
        save();
        int before = now.memory[address] & 0xFF;
        now.memory[address] = (byte) value;
        return before;
    }

    public int freeBytes(boolean largest) {
        if (largest) {
            int most = 0;
            for (int base = 0; base < MEMORY_BYTES; base += BASE_STEP) {
                most = Math.max(most, freeFrom(base));
            }
            return most;
        }
        int free = MEMORY_BYTES;
        for (int i = 0; i < MAX_TABLES; i++) {
            if (now.tables[i].live) {
                free -= now.tables[i].bytes;
            }
        }
        return free;
    }

    // ---- conversions

    public int convert(int table, int layout, int order)
            throws IndexOutOfBoundsException, IllegalArgumentException, IllegalStateException {
        checkTable(table);
        checkLayout(layout);
        checkOrder(order);
        rewrite(table, now.tables[table].record, layout, order);
        return now.tables[table].base;
    }

    public int migrate(int table, int record, int layout)
            throws IndexOutOfBoundsException, IllegalArgumentException, IllegalStateException {
        checkTable(table);
        checkRecord(record);
        checkLayout(layout);
        checkHasFields(record);
        return rewrite(table, record, layout, now.tables[table].order);
    }

    public int compact() {
        save();
        int moved = 0;
        int end = 0;
        for (int i = 0; i < MAX_TABLES; i++) {
            // No table that is still to move begins before the end of those that have moved.
            Table table = firstTableFrom(end);
            if (table == null) {
                break;
            }
            int base = roundUp(end, BASE_STEP);
            if (base != table.base) {
                copyMemory(table.base, base, table.bytes);
                table.base = base;
                moved++;
            }
            end = base + table.bytes;
        }
        return moved;
    }

    public int sort(int table, int leaf, boolean descending) throws IndexOutOfBoundsException {
        checkLeafOfTable(table, leaf);
        save();
        openView(table);
        orderRows(leaf, descending);
        for (int k = 0; k < view.leaves; k++) {
            reorderColumn(k);
        }
        int moved = 0;
        for (int row = 0; row < view.rows; row++) {
            if (rowOrder[row] != row) {
                moved++;
            }
        }
        return moved;
    }

    public int fill(int table, int leaf, long start, long step) throws IndexOutOfBoundsException {
        checkLeafOfTable(table, leaf);
        save();
        openView(table);
        for (int row = 0; row < view.rows; row++) {
            view.write(now.memory, row, leaf, start + row * step);
        }
        return view.rows;
    }

    public int copyRow(int table, int from, int to) throws IndexOutOfBoundsException {
        checkRow(table, from);
        checkRow(table, to);
        save();
        openView(table);
        int changed = 0;
        for (int k = 0; k < view.leaves; k++) {
            long value = view.read(now.memory, from, k);
            if (value != view.read(now.memory, to, k)) {
                changed++;
            }
            view.write(now.memory, to, k, value);
        }
        return changed;
    }

    // ---- questions about tables

    public int count(int table, int leaf, int relation, long value)
            throws IndexOutOfBoundsException, IllegalArgumentException {
        checkLeafOfTable(table, leaf);
        if (relation < 0 || relation > 2) {
            throw new IllegalArgumentException("there is no such relation");
        }
        openView(table);
        int found = 0;
        for (int row = 0; row < view.rows; row++) {
            long have = view.read(now.memory, row, leaf);
            int is = have < value ? 0 : have == value ? 1 : 2;
            if (is == relation) {
                found++;
            }
        }
        return found;
    }

    public int findRow(int table, int leaf, long value, int from) throws IndexOutOfBoundsException {
        checkPlace(table, from, leaf);
        openView(table);
        for (int row = from; row < view.rows; row++) {
            if (view.read(now.memory, row, leaf) == value) {
                return row;
            }
        }
        return NONE;
    }

    public long sum(int table, int leaf) throws IndexOutOfBoundsException {
        checkLeafOfTable(table, leaf);
        openView(table);
        long total = 0;
        for (int row = 0; row < view.rows; row++) {
            total += view.read(now.memory, row, leaf);
        }
        return total;
    }

    public int lines(int table, long leaves, int from, int to, int line)
            throws IndexOutOfBoundsException, IllegalArgumentException {
        checkRows(table, from, to);
        checkLine(line);
        openView(table);
        view.markScan(marks, leaves, from, to, line);
        return marks.total();
    }

    public int runs(int table, long leaves, int from, int to)
            throws IndexOutOfBoundsException, IllegalArgumentException {
        checkRows(table, from, to);
        openView(table);
        view.markScan(marks, leaves, from, to, 1);
        return marks.sequences();
    }

    public int bestLayout(int table, long leaves, int line)
            throws IndexOutOfBoundsException, IllegalArgumentException {
        checkTable(table);
        checkLine(line);
        Table asked = now.tables[table];
        int bestOne = 0;
        int fewest = MEMORY_BYTES;
        for (int layout = 0; layout <= MAX_LAYOUT; layout++) {
            target.layOut(shapes[asked.record], asked.rows, layout);
            target.moveTo(0, asked.order);
            target.markScan(marks, leaves, 0, asked.rows - 1, line);
            if (marks.total() < fewest) {
                fewest = marks.total();
                bestOne = layout;
            }
        }
        return bestOne;
    }

    // ---- state

    public int undo() throws IllegalStateException {
        if (savedTotal < 1) {
            throw new IllegalStateException("no state is saved");
        }
        savedTotal--;
        searchedRecord = NONE;
        now.copyFrom(saved[(oldestSaved + savedTotal) % MAX_SAVED]);
        for (int record = 0; record < now.records; record++) {
            buildShape(record);
        }
        return savedTotal;
    }

    public long digest() {
        long h = 31 * HASH_START + now.records;
        for (int record = 0; record < now.records; record++) {
            h = hashRecord(h, record);
        }
        h = 31 * h + tables();
        for (int table = 0; table < MAX_TABLES; table++) {
            for (int what = 0; what <= 5 && now.tables[table].live; what++) {
                h = 31 * h + tableNumber(table, what);
            }
        }
        for (int i = 0; i < MEMORY_BYTES; i++) {
            h = 31 * h + (now.memory[i] & 0xFF);
        }
        h = 31 * h + text.length;
        return 31 * h + savedTotal;
    }

    // ---- what the calls refuse

    private static void checkPack(int pack) {
        if (pack != 1 && pack != 2 && pack != 4 && pack != 8) {
            throw new IllegalArgumentException("there is no such pack");
        }
    }

    private void checkRecordRoom() {
        if (now.records >= MAX_RECORDS) {
            throw new IllegalStateException("there are all records already");
        }
    }

    private void checkRecord(int record) {
        if (record < 0 || record >= now.records) {
            throw new IndexOutOfBoundsException("there is no such record");
        }
    }

    private void checkLeafOfRecord(int record, int leaf) {
        checkRecord(record);
        if (leaf < 0 || leaf >= shapes[record].leaves.total) {
            throw new IndexOutOfBoundsException("there is no such leaf");
        }
    }

    private void checkHasFields(int record) {
        if (now.fields[record].total < 1) {
            throw new IllegalStateException("the record has no fields");
        }
    }

    private static void checkWhat(int what, int last) {
        if (what < 0 || what > last) {
            throw new IllegalArgumentException("there is no such information");
        }
    }

    private static void checkLayout(int layout) {
        if (layout < 0 || layout > MAX_LAYOUT) {
            throw new IllegalArgumentException("there is no such layout");
        }
    }

    private static void checkOrder(int order) {
        if (order < 0 || order > 1) {
            throw new IllegalArgumentException("there is no such byte order");
        }
    }

    private void checkTable(int table) {
        if (table < 0 || table >= MAX_TABLES || !now.tables[table].live) {
            throw new IndexOutOfBoundsException("there is no such table");
        }
    }

    private void checkRow(int table, int row) {
        checkTable(table);
        if (row < 0 || row >= now.tables[table].rows) {
            throw new IndexOutOfBoundsException("there is no such row");
        }
    }

    private void checkLeafOfTable(int table, int leaf) {
        checkTable(table);
        checkLeafOfRecord(now.tables[table].record, leaf);
    }

    private void checkPlace(int table, int row, int leaf) {
        checkRow(table, row);
        checkLeafOfTable(table, leaf);
    }

    private void checkRows(int table, int from, int to) {
        checkRow(table, from);
        checkRow(table, to);
        if (from > to) {
            throw new IllegalArgumentException("the first row is behind the last one");
        }
    }

    private static void checkLine(int line) {
        if (line != 16 && line != 32 && line != 64) {
            throw new IllegalArgumentException("there is no such size of a line");
        }
    }

    private static void checkAddress(int address) {
        if (address < 0 || address >= MEMORY_BYTES) {
            throw new IndexOutOfBoundsException("there is no such address");
        }
    }

    // ---- types

    private static boolean isPlain(int type) {
        return type >= I8 && type <= BOOL;
    }

    private static boolean isBits(int type) {
        return type > BITS && type <= BITS + UNIT_BITS;
    }

    private static int bytesOfType(int type) {
        return isPlain(type) ? PLAIN_BYTES[type] : UNIT_BYTES;
    }

    /** The step is a power of two. */
    private static int roundUp(int number, int step) {
        return number + step - 1 & -step;
    }

    // ---- records, inside

    private Shape shapeOfType(int type) {
        int record = type - NESTED;
        return record >= 0 && record < now.records ? shapes[record] : null;
    }

    private int leavesOfType(int type) {
        Shape inner = shapeOfType(type);
        return inner == null ? 1 : inner.leaves.total;
    }

    private boolean canBeTypeIn(int record, int type) {
        if (isPlain(type) || isBits(type)) {
            return true;
        }
        int inner = type - NESTED;
        return inner >= 0 && inner < record && now.fields[inner].total > 0;
    }

    private boolean isInUse(int record) {
        for (int i = 0; i < now.records; i++) {
            if (now.fields[i].hasType(NESTED + record)) {
                return true;
            }
        }
        for (int i = 0; i < MAX_TABLES; i++) {
            if (now.tables[i].live && now.tables[i].record == record) {
                return true;
            }
        }
        return false;
    }

    /** Only records with smaller numbers are looked at, so shapes are to be built in ascending order. */
    private void buildShape(int record) {
        shapes[record].clear();
        for (int field = 0; field < now.fields[record].total; field++) {
            placeField(record, field);
        }
    }

    private void placeField(int record, int field) {
        Fields fields = now.fields[record];
        shapes[record].place(fields, field, shapeOfType(fields.type[field]));
    }

    /** The orders are asked for one position after the other, so the last answer is kept until a record can change. */
    private void searchBest(int record) {
        if (searchedRecord != record) {
            best.search(now.fields[record], shapes[record]);
            searchedRecord = record;
        }
    }

    private int recordNumber(int record, int what) {
        Shape shape = shapes[record];
        switch (what) {
            case 0: return now.fields[record].pack;
            case 1: return now.fields[record].total;
            case 2: return shape.size();
            case 3: return shape.widest;
            case 4: return shape.size() - shape.covered;
            case 5: return shape.leaves.total;
            default: return isInUse(record) ? 1 : 0;
        }
    }

    private int fieldNumber(int record, int field, int what) {
        Fields fields = now.fields[record];
        Shape shape = shapes[record];
        switch (what) {
            case 0: return fields.name[field];
            case 1: return fields.type[field];
            case 2: return fields.count[field];
            case 3: return shape.offset[field];
            case 4: return shape.bit[field];
            default: return shape.bytes[field];
        }
    }

    private long hashRecord(long hash, int record) {
        long h = hash;
        for (int what = 0; what <= 5; what++) {
            h = 31 * h + recordNumber(record, what);
        }
        for (int field = 0; field < now.fields[record].total; field++) {
            for (int what = 0; what <= 4; what++) {
                h = 31 * h + fieldNumber(record, field, what);
            }
        }
        return h;
    }

    // ---- paths

    /** A path is held as a number with a byte for each level, the outermost level in the lowest one. */
    private static long pathOf(int name, int element, int count, long inner) {
        int level = (name - 'a' + 1) * 8 + (count > 1 ? element + 1 : 0);
        return inner << 8 | level;
    }

    private static int signOfPath(long path, int index) {
        if (index < 0) {
            return NONE;
        }
        long rest = path;
        int left = index;
        for (int depth = 0; depth < MAX_RECORDS && rest != 0; depth++) {
            int level = (int) (rest & 0xFF);
            rest >>= 8;
            int length = (level % 8 == 0 ? 1 : 4) + (rest == 0 ? 0 : 1);
            if (left < length) {
                return signOfLevel(level, left);
            }
            left -= length;
        }
        return NONE;
    }

    private static int signOfLevel(int level, int index) {
        if (index == 0) {
            return 'a' - 1 + level / 8;
        }
        if (level % 8 == 0) {
            return '.';
        }
        switch (index) {
            case 1: return '[';
            case 2: return '0' - 1 + level % 8;
            case 3: return ']';
            default: return '.';
        }
    }

    private boolean isText(long path) {
        for (int i = 0; i <= text.length; i++) {
            if (signOfPath(path, i) != text.signAt(i)) {
                return false;
            }
        }
        return true;
    }

    // ---- tables and memory, inside

    private int tableNumber(int table, int what) {
        Table asked = now.tables[table];
        switch (what) {
            case 0: return asked.record;
            case 1: return asked.rows;
            case 2: return asked.layout;
            case 3: return asked.order;
            case 4: return asked.base;
            default: return asked.bytes;
        }
    }

    private int firstFreeTable() {
        for (int i = 0; i < MAX_TABLES; i++) {
            if (!now.tables[i].live) {
                return i;
            }
        }
        return NONE;
    }

    private Table firstTableFrom(int address) {
        Table first = null;
        for (int i = 0; i < MAX_TABLES; i++) {
            Table table = now.tables[i];
            if (table.live && table.base >= address && (first == null || table.base < first.base)) {
                first = table;
            }
        }
        return first;
    }

    /** The number of bytes from an address on that belong to no table. */
    private int freeFrom(int address) {
        int end = MEMORY_BYTES;
        for (int i = 0; i < MAX_TABLES; i++) {
            Table table = now.tables[i];
            if (table.live && address < table.base + table.bytes) {
                end = Math.min(end, Math.max(address, table.base));
            }
        }
        return end - address;
    }

    private int findRoom(int bytes) {
        for (int base = 0; base < MEMORY_BYTES; base += BASE_STEP) {
            if (freeFrom(base) >= bytes) {
                return base;
            }
        }
        return NONE;
    }

    private void clearMemory(int base, int bytes) {
        int end = Math.min(base + bytes, MEMORY_BYTES);
        for (int i = Math.max(base, 0); i < end; i++) {
            now.memory[i] = 0;
        }
    }

    /** Ascending, so that a place that begins lower may overlap the old one. */
    private void copyMemory(int from, int to, int bytes) {
        if (from < 0 || to < 0) {
            return;
        }
        for (int i = 0; i < bytes && from + i < MEMORY_BYTES && to + i < MEMORY_BYTES; i++) {
            now.memory[to + i] = now.memory[from + i];
        }
    }

    private void openView(int table) {
        Table asked = now.tables[table];
        view.layOut(shapes[asked.record], asked.rows, asked.layout);
        view.moveTo(asked.base, asked.order);
    }

    /** Returns how many leaves of the new record are written. */
    private int rewrite(int table, int record, int layout, int order) {
        Table moved = now.tables[table];
        openView(table);
        target.layOut(shapes[record], moved.rows, layout);
        int base = findRoom(target.bytes);
        if (base == NONE) {
            throw new IllegalStateException("there is no room");
        }
        save();
        target.moveTo(base, order);
        clearMemory(base, target.bytes);
        int written = copyLeaves(shapes[moved.record].leaves, shapes[record].leaves);
        moved.record = record;
        moved.layout = layout;
        moved.order = order;
        moved.base = base;
        moved.bytes = target.bytes;
        return written;
    }

    private int copyLeaves(Leaves old, Leaves fresh) {
        int written = 0;
        for (int k = 0; k < fresh.total; k++) {
            int source = old.withPath(fresh.path[k]);
            if (source == NONE) {
                continue;
            }
            written++;
            for (int row = 0; row < target.rows; row++) {
                target.write(now.memory, row, k, view.read(now.memory, row, source));
            }
        }
        return written;
    }

    /** An insertion sort: it keeps the order of equal rows. */
    private void orderRows(int leaf, boolean descending) {
        for (int row = 0; row < view.rows; row++) {
            long value = view.read(now.memory, row, leaf);
            int place = row;
            while (place > 0 && (descending ? column[place - 1] < value : column[place - 1] > value)) {
                column[place] = column[place - 1];
                rowOrder[place] = rowOrder[place - 1];
                place--;
            }
            column[place] = value;
            rowOrder[place] = row;
        }
    }

    private void reorderColumn(int leaf) {
        for (int row = 0; row < view.rows; row++) {
            column[row] = view.read(now.memory, rowOrder[row], leaf);
        }
        for (int row = 0; row < view.rows; row++) {
            view.write(now.memory, row, leaf, column[row]);
        }
    }

    /** To be called before each change of the state. */
    private void save() {
        searchedRecord = NONE;
        if (savedTotal < MAX_SAVED) {
            savedTotal++;
        } else {
            oldestSaved = (oldestSaved + 1) % MAX_SAVED;
        }
        saved[(oldestSaved + savedTotal - 1) % MAX_SAVED].copyFrom(now);
    }

    /** The fields of a record as they were given; where they lie follows from them. */
    private static final class Fields {
        int pack = 1;
        int total;
        final int[] name = new int[MAX_FIELDS];
        final int[] type = new int[MAX_FIELDS];
        final int[] count = new int[MAX_FIELDS];

        void start(int newPack) {
            pack = newPack;
            total = 0;
        }

        void add(int newName, int newType, int newCount) {
            if (total >= MAX_FIELDS) {
                return;
            }
            name[total] = newName;
            type[total] = newType;
            count[total] = newCount;
            total++;
        }

        boolean hasName(int asked) {
            for (int i = 0; i < total; i++) {
                if (name[i] == asked) {
                    return true;
                }
            }
            return false;
        }

        boolean hasType(int asked) {
            for (int i = 0; i < total; i++) {
                if (type[i] == asked) {
                    return true;
                }
            }
            return false;
        }

        void copyFrom(Fields other) {
            pack = other.pack;
            total = 0;
            for (int i = 0; i < other.total; i++) {
                add(other.name[i], other.type[i], other.count[i]);
            }
        }
    }

    /** The leaves of a record. */
    private static final class Leaves {
        int total;
        final int[] type = new int[MAX_LEAVES];
        final int[] offset = new int[MAX_LEAVES];
        final int[] bit = new int[MAX_LEAVES];
        final int[] field = new int[MAX_LEAVES];
        final long[] path = new long[MAX_LEAVES];

        void add(int newType, int newOffset, int newBit, int newField, long newPath) {
            if (total >= MAX_LEAVES) {
                return;
            }
            type[total] = newType;
            offset[total] = newOffset;
            bit[total] = newBit;
            field[total] = newField;
            path[total] = newPath;
            total++;
        }

        int withPath(long asked) {
            for (int i = 0; i < total; i++) {
                if (path[i] == asked) {
                    return i;
                }
            }
            return NONE;
        }
    }

    /** Where the fields and leaves of a record lie in it. */
    private static final class Shape {
        final int[] offset = new int[MAX_FIELDS];
        final int[] bit = new int[MAX_FIELDS];
        final int[] bytes = new int[MAX_FIELDS];
        final int[] align = new int[MAX_FIELDS];
        final Leaves leaves = new Leaves();
        int widest = 1;
        int covered;
        int end;
        int bitsLeft;

        void clear() {
            leaves.total = 0;
            widest = 1;
            covered = 0;
            end = 0;
            bitsLeft = 0;
        }

        int size() {
            return roundUp(end, widest);
        }

        /** Places the field behind those before it; the inner shape is null unless its type is a record. */
        void place(Fields fields, int field, Shape inner) {
            int type = fields.type[field];
            int count = fields.count[field];
            bytes[field] = inner == null ? bytesOfType(type) : inner.size();
            align[field] = Math.min(inner == null ? bytes[field] : inner.widest, fields.pack);
            widest = Math.max(widest, align[field]);
            if (isBits(type)) {
                placeBits(field, type - BITS);
            } else {
                placeElements(field, count);
                covered += count * (inner == null ? bytes[field] : inner.covered);
            }
            for (int i = 0; i < count; i++) {
                if (inner == null) {
                    leaves.add(type, offset[field] + i * bytes[field], bit[field], field,
                            pathOf(fields.name[field], i, count, 0));
                } else {
                    addInnerLeaves(fields, field, i, inner.leaves);
                }
            }
        }

        private void placeBits(int field, int width) {
            if (bitsLeft < width) {
                end = roundUp(end, align[field]) + UNIT_BYTES;
                bitsLeft = UNIT_BITS;
                covered += UNIT_BYTES;
            }
            offset[field] = end - UNIT_BYTES;
            bit[field] = UNIT_BITS - bitsLeft;
            bitsLeft -= width;
        }

        private void placeElements(int field, int count) {
            offset[field] = roundUp(end, align[field]);
            bit[field] = 0;
            end = offset[field] + count * bytes[field];
            bitsLeft = 0;
        }

        private void addInnerLeaves(Fields fields, int field, int element, Leaves inner) {
            int start = offset[field] + element * bytes[field];
            for (int i = 0; i < inner.total; i++) {
                leaves.add(inner.type[i], start + inner.offset[i], inner.bit[i], field,
                        pathOf(fields.name[field], element, fields.count[field], inner.path[i]));
            }
        }
    }

    /** A table of the state. */
    private static final class Table {
        boolean live;
        int record;
        int rows;
        int layout;
        int order;
        int base;
        int bytes;

        void copyFrom(Table other) {
            live = other.live;
            record = other.record;
            rows = other.rows;
            layout = other.layout;
            order = other.order;
            base = other.base;
            bytes = other.bytes;
        }
    }

    /** All that undo brings back. */
    private static final class State {
        int records;
        final Fields[] fields = new Fields[MAX_RECORDS];
        final Table[] tables = new Table[MAX_TABLES];
        final byte[] memory = new byte[MEMORY_BYTES];

        State() {
            for (int i = 0; i < MAX_RECORDS; i++) {
                fields[i] = new Fields();
            }
            for (int i = 0; i < MAX_TABLES; i++) {
                tables[i] = new Table();
            }
        }

        void copyFrom(State other) {
            records = other.records;
            for (int i = 0; i < records; i++) {
                fields[i].copyFrom(other.fields[i]);
            }
            for (int i = 0; i < MAX_TABLES; i++) {
                tables[i].copyFrom(other.tables[i]);
            }
            System.arraycopy(other.memory, 0, memory, 0, MEMORY_BYTES);
        }
    }

    /** A table as it lies in memory. Every layout is one in blocks: by rows with a row in each, by columns with one. */
    private static final class View {
        int base;
        int order;
        int rows;
        int leaves;
        int bytes;
        private int blockRows = 1;
        private int blockBytes;
        private final int[] type = new int[MAX_LEAVES];
        private final int[] start = new int[MAX_LEAVES];
        private final int[] width = new int[MAX_LEAVES];
        private final int[] bit = new int[MAX_LEAVES];

        void layOut(Shape shape, int newRows, int layout) {
            rows = newRows;
            leaves = shape.leaves.total;
            blockRows = Math.max(layout == 1 ? newRows : layout, 1);
            int end = 0;
            for (int k = 0; k < leaves; k++) {
                type[k] = shape.leaves.type[k];
                width[k] = bytesOfType(type[k]);
                start[k] = layout == 0 ? shape.leaves.offset[k] : roundUp(end, width[k]);
                bit[k] = layout == 0 ? shape.leaves.bit[k] : 0;
                end = start[k] + blockRows * width[k];
            }
            blockBytes = layout == 0 ? shape.size() : roundUp(end, TABLE_STEP);
            bytes = roundUp((rows + blockRows - 1) / blockRows * blockBytes, TABLE_STEP);
        }

        void moveTo(int newBase, int newOrder) {
            base = newBase;
            order = newOrder;
        }

        int placeOf(int row, int leaf) {
            if (!hasLeaf(leaf) || blockRows < 1) {
                return NONE;
            }
            return base + row / blockRows * blockBytes + start[leaf] + row % blockRows * width[leaf];
        }

        private boolean hasLeaf(int leaf) {
            return leaf >= 0 && leaf < leaves && leaf < MAX_LEAVES;
        }

        long read(byte[] memory, int row, int leaf) {
            if (!hasLeaf(leaf)) {
                return 0;
            }
            long raw = rawAt(memory, placeOf(row, leaf), width[leaf]);
            int kind = type[leaf];
            if (isBits(kind)) {
                return raw >>> bit[leaf] & maskOf(kind);
            }
            switch (kind) {
                case I8: return (byte) raw;
                case I16: return (short) raw;
                case I32: return (int) raw;
                case BOOL: return raw == 0 ? 0 : 1;
                default: return raw;
            }
        }

        void write(byte[] memory, int row, int leaf, long value) {
            if (!hasLeaf(leaf)) {
                return;
            }
            int at = placeOf(row, leaf);
            int kind = type[leaf];
            long raw = value;
            if (kind == BOOL) {
                raw = value == 0 ? 0 : 1;
            } else if (isBits(kind)) {
                long mask = maskOf(kind) << bit[leaf];
                raw = rawAt(memory, at, width[leaf]) & ~mask | value << bit[leaf] & mask;
            }
            putRaw(memory, at, width[leaf], raw);
        }

        /** Marks the pieces of so many bytes that the leaves touch in the rows. */
        void markScan(Marks marks, long set, int from, int to, int piece) {
            marks.clear();
            if (piece < 1) {
                return;
            }
            for (int k = 0; k < leaves; k++) {
                if ((set >>> k & 1) == 0) {
                    continue;
                }
                for (int row = from; row <= to; row++) {
                    int at = placeOf(row, k);
                    for (int i = at / piece; i <= (at + width[k] - 1) / piece; i++) {
                        marks.mark(i);
                    }
                }
            }
        }

        private static long maskOf(int kind) {
            return (1L << kind - BITS) - 1;
        }

        private long rawAt(byte[] memory, int at, int length) {
            long raw = 0;
            for (int i = 0; i < length; i++) {
                int place = order == 0 ? at + length - 1 - i : at + i;
                if (place >= 0 && place < MEMORY_BYTES) {
                    raw = raw << 8 | memory[place] & 0xFF;
                }
            }
            return raw;
        }

        private void putRaw(byte[] memory, int at, int length, long raw) {
            for (int i = 0; i < length; i++) {
                int place = order == 0 ? at + i : at + length - 1 - i;
                if (place >= 0 && place < MEMORY_BYTES) {
                    memory[place] = (byte) (raw >> 8 * i);
                }
            }
        }
    }

    /** A set of numbers below 1024: no layout of a table with base 0 has more bytes in lines of 16. */
    private static final class Marks {
        private static final int WORDS = MEMORY_BYTES / 64;
        private final long[] words = new long[WORDS];

        void clear() {
            Arrays.fill(words, 0);
        }

        void mark(int number) {
            if (number >= 0 && number < MEMORY_BYTES) {
                words[number / 64] |= 1L << number % 64;
            }
        }

        int total() {
            int marked = 0;
            for (int i = 0; i < WORDS; i++) {
                marked += Long.bitCount(words[i]);
            }
            return marked;
        }

        /** A sequence begins at each number that is marked while the one before is not. */
        int sequences() {
            int found = 0;
            long carry = 0;
            for (int i = 0; i < WORDS; i++) {
                found += Long.bitCount(words[i] & ~(words[i] << 1 | carry));
                carry = words[i] >>> 63;
            }
            return found;
        }
    }

    /** The text, and the fields that it defines. */
    private static final class Text {
        int length;
        final Fields draft = new Fields();
        private final byte[] signs = new byte[MAX_TEXT];
        private int at;
        private int leaves;

        void add(int sign) {
            if (length < MAX_TEXT) {
                signs[length] = (byte) sign;
                length++;
            }
        }

        int signAt(int index) {
            return index >= 0 && index < length ? signs[index] : NONE;
        }

        /** Returns the syntax error position, or NONE; without an error the draft has the fields. */
        int readDefinition(Shape[] shapes, int records) {
            at = 0;
            leaves = 0;
            draft.start(1);
            for (int i = 0; i <= MAX_FIELDS; i++) {
                if (!readField(shapes, records)) {
                    return at;
                }
                if (at >= length) {
                    return NONE;
                }
            }
            return at;
        }

        /** Stops where a byte cannot stand, and returns false then; so do the other methods with NONE. */
        private boolean readField(Shape[] shapes, int records) {
            int name = signAt(at);
            if (name < 'a' || name > 'z' || draft.hasName(name) || draft.total >= MAX_FIELDS) {
                return false;
            }
            at++;
            if (!takes(':')) {
                return false;
            }
            int type = readType(shapes, records);
            if (type == NONE) {
                return false;
            }
            int count = readCount(type);
            if (count == NONE) {
                return false;
            }
            leaves += count * (type >= NESTED ? shapes[type - NESTED].leaves.total : 1);
            draft.add(name, type, count);
            return leaves <= MAX_LEAVES && takes(';');
        }

        private int readType(Shape[] shapes, int records) {
            if (takes('b')) {
                return BOOL;
            }
            if (takes('i')) {
                return readSize(true);
            }
            if (takes('u')) {
                return readSize(false);
            }
            if (takes('#')) {
                return readRecord(shapes, records);
            }
            return takes('%') ? readWidth() : NONE;
        }

        private int readSize(boolean signed) {
            int unsigned = signed ? 0 : 1;
            if (takes('8')) {
                return I8 + unsigned;
            }
            if (takes('1')) {
                return takes('6') ? I16 + unsigned : NONE;
            }
            if (takes('3')) {
                return takes('2') ? I32 + unsigned : NONE;
            }
            return signed && takes('6') && takes('4') ? I64 : NONE;
        }

        private int readRecord(Shape[] shapes, int records) {
            int record = digit();
            if (record == NONE || record >= records || shapes[record].leaves.total < 1) {
                return NONE;
            }
            at++;
            return NESTED + record;
        }

        private int readWidth() {
            int width = digit();
            if (width < 1) {
                return NONE;
            }
            at++;
            int second = digit();
            if (second != NONE && width * 10 + second <= UNIT_BITS) {
                at++;
                width = width * 10 + second;
            }
            return BITS + width;
        }

        private int readCount(int type) {
            if (isBits(type) || !takes('[')) {
                return 1;
            }
            int count = digit();
            if (count < 1 || count > MAX_COUNT) {
                return NONE;
            }
            at++;
            return takes(']') ? count : NONE;
        }

        private int digit() {
            int sign = signAt(at);
            return sign >= '0' && sign <= '9' ? sign - '0' : NONE;
        }

        private boolean takes(char wanted) {
            if (signAt(at) != wanted) {
                return false;
            }
            at++;
            return true;
        }
    }

    /**
     * Finds the best order of fields. A lower end is never worse than a higher one, so it is enough to know, for
     * each set of placed fields and each number of bits left in the last unit, how far before the end of the
     * record the others have to begin at the latest.
     */
    private static final class BestOrder {
        private static final int SETS = 1 << MAX_FIELDS;
        /** More bytes than any record has. */
        private static final int FAR = 1 << 20;

        int size;
        final int[] order = new int[MAX_FIELDS];
        private int total;
        private final int[] length = new int[MAX_FIELDS];
        private final int[] align = new int[MAX_FIELDS];
        private final int[] width = new int[MAX_FIELDS];
        private final int[] need = new int[SETS * UNIT_BITS];

        void search(Fields fields, Shape shape) {
            total = fields.total;
            for (int f = 0; f < total; f++) {
                length[f] = fields.count[f] * shape.bytes[f];
                align[f] = shape.align[f];
                width[f] = isBits(fields.type[f]) ? fields.type[f] - BITS : 0;
            }
            fillNeeds();
            size = roundUp(need[0], shape.widest);
            choose();
        }

        private void fillNeeds() {
            for (int set = (1 << total) - 1; set >= 0; set--) {
                int lefts = hasBits(set) ? UNIT_BITS : 1;
                for (int left = 0; left < lefts; left++) {
                    need[set * UNIT_BITS + left] = leastNeed(set, left);
                }
            }
        }

        /** Without a bit field in the set no unit can have bits left. */
        private boolean hasBits(int set) {
            for (int f = 0; f < total; f++) {
                if ((set >> f & 1) == 1 && width[f] > 0) {
                    return true;
                }
            }
            return false;
        }

        private int leastNeed(int set, int left) {
            int least = set + 1 == 1 << total ? 0 : FAR;
            for (int f = 0; f < total; f++) {
                if ((set >> f & 1) == 1) {
                    continue;
                }
                int rest = needAfter(set, left, f);
                least = Math.min(least, fits(left, f) ? rest : roundUp(rest + length[f], align[f]));
            }
            return least;
        }

        private int needAfter(int set, int left, int f) {
            return need[(set | 1 << f) * UNIT_BITS + leftAfter(left, f)];
        }

        private boolean fits(int left, int f) {
            return width[f] > 0 && width[f] <= left;
        }

        private int leftAfter(int left, int f) {
            if (width[f] == 0) {
                return 0;
            }
            return width[f] <= left ? left - width[f] : UNIT_BITS - width[f];
        }

        private void choose() {
            int set = 0;
            int end = 0;
            int left = 0;
            for (int position = 0; position < total; position++) {
                for (int f = 0; f < total; f++) {
                    int next = fits(left, f) ? end : roundUp(end, align[f]) + length[f];
                    if ((set >> f & 1) == 1 || next + needAfter(set, left, f) > size) {
                        continue;
                    }
                    order[position] = f;
                    set |= 1 << f;
                    end = next;
                    left = leftAfter(left, f);
                    break;
                }
            }
        }
    }
}
