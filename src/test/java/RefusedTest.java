import java.util.List;

/**
 * EXCEPTIONS: of several exceptions the one that is listed first is thrown, a refused call changes nothing, and NONE is
 * returned only if no exception applies. For each method every pair of reasons that can apply at once is tried.
 */
public final class RefusedTest {
    private static final Class<?> INDEX = IndexOutOfBoundsException.class;
    private static final Class<?> ARGUMENT = IllegalArgumentException.class;
    private static final Class<?> STATE = IllegalStateException.class;
    private static final int[] NO_RECORD = {-1, 6, 100, Integer.MIN_VALUE, Integer.MAX_VALUE};
    private static final int[] NO_TABLE = {-1, 3, 7, Integer.MIN_VALUE, Integer.MAX_VALUE};
    private static final int[] NO_LAYOUT = {-1, 9, Integer.MIN_VALUE, Integer.MAX_VALUE};
    private static final int[] NO_ORDER = {-1, 2, Integer.MIN_VALUE, Integer.MAX_VALUE};
    private static final int[] NO_PACK = {0, 3, 5, 16, -1, -8, Integer.MIN_VALUE, Integer.MAX_VALUE};
    private static final int[] NO_LINE = {0, 1, 8, 15, 17, 48, 128, -16, Integer.MIN_VALUE, Integer.MAX_VALUE};

    private static String full = "";
    private static String roomy = "";

    public static void main(String[] args) {
        full = whole(full());
        roomy = whole(roomy());
        Check.due("two full objects are the same", whole(full()), full);
        newRecord();
        addFieldIndexFirst();
        addFieldArgumentFirst();
        addFieldState();
        infos();
        texts();
        define();
        newTable();
        newTableArgumentFirst();
        tableNumbers();
        tableRowsAndLeaves();
        memory();
        convert();
        migrate();
        questions();
        scans();
        undo();
        noneOnlyWithoutException();
        Check.finish();
    }

    /**
     * Six records: 0 in use as a type and by a table, 1 without fields, 2 of a table, 3 with eight fields, 4 with 40
     * leaves, 5 with one field. Three tables: 24 bytes at 0, 40 at 32, 904 at 80, and 32 bytes of room behind them.
     */
    private static RecordLayouts full() {
        RecordLayouts x = Bounds.records(8, "a:i8;b:%3;c:i32;", "-", "p:#0[2];q:u8;",
                "a:b;b:b;c:b;d:b;e:b;f:b;g:b;h:b;",
            "a:#0[4];b:#0[4];c:#0[4];d:i8[4];", "a:b;");
        x.newTable(0, 3, 0, 0);
        x.newTable(2, 2, 0, 1);
        x.newTable(4, 9, 0, 0);
        x.fill(0, 2, 1000, -1);
        x.poke(1020, 5);
        Check.write(x, "p[1].b");
        return x;
    }

    /** Five records and two tables, and a text that is a definition. */
    private static RecordLayouts roomy() {
        RecordLayouts x = Bounds.records(8, "a:i8;b:%3;c:i32;", "-", "p:#0[2];q:u8;", "a:i64[4];b:i64[4];",
            "a:#3;b:#3;");
        x.newTable(4, 7, 1, 1);
        x.newTable(0, 3, 0, 0);
        x.poke(1020, 5);
        Check.write(x, "k:%9;l:#0[3];m:u16;");
        return x;
    }

    /** All that can be asked of an object, of the states that it has saved and of its text. */
    private static String whole(RecordLayouts x) {
        StringBuilder all = new StringBuilder();
        look(x, all);
        for (int left = 4; left > 0; left--) {
            all.append("undo ").append(Check.answer(x::undo)).append(' ').append(x.digest()).append('\n');
        }
        all.append("undo ").append(Check.answer(x::undo)).append('\n');
        all.append("define ").append(Check.answer(() -> x.define(8))).append(' ').append(x.digest()).append('\n');
        return all.append("text ").append(x.clearText()).toString();
    }

    private static void look(RecordLayouts x, StringBuilder all) {
        all.append(x.digest()).append('\n');
        for (int r = 0; r < x.records(); r++) {
            all.append("record ").append(x.recordInfo(r, 6)).append(' ').append(x.findLeaf(r)).append(' ');
            all.append(x.bestSize(r));
            int leaves = x.recordInfo(r, 5);
            for (int leaf = 0; leaf < leaves; leaf += 3) {
                all.append(' ').append(x.leafInfo(r, leaf, 1)).append(' ').append(x.leafInfo(r, leaf, 2));
            }
            all.append('\n');
        }
        for (int t = 0; t < 3; t++) {
            if ((x.tables() >> t & 1) == 1) {
                all.append("table ").append(x.sum(t, 0)).append(' ').append(x.address(t, 1, 1)).append('\n');
            }
        }
        all.append(x.freeBytes(true)).append(' ').append(x.freeBytes(false)).append('\n');
    }

    /** On the full object the call throws this exception and changes nothing. */
    private static void refuses(String what, Class<?> exception, Bounds.CallWith call) {
        RecordLayouts x = full();
        Check.due(what, Check.answer(() -> call.of(x, 0)), "throws." + exception.getSimpleName());
        Check.due(what + " changes nothing", whole(x), full);
    }

    private static void refusesRoomy(String what, Class<?> exception, Bounds.CallWith call) {
        RecordLayouts x = roomy();
        Check.due(what, Check.answer(() -> call.of(x, 0)), "throws." + exception.getSimpleName());
        Check.due(what + " changes nothing", whole(x), roomy);
    }

    private static void newRecord() {
        for (int pack : new int[] {1, 2, 4, 8}) {
            refuses("2 six records", STATE, (x, n) -> x.newRecord(pack));
        }
        for (int pack : NO_PACK) {
            refuses("2 pack " + pack + " and six records", ARGUMENT, (x, n) -> x.newRecord(pack));
            refusesRoomy("2 pack " + pack, ARGUMENT, (x, n) -> x.newRecord(pack));
        }
    }

    private static void addFieldIndexFirst() {
        for (int record : NO_RECORD) {
            refuses("3 record " + record, INDEX, (x, n) -> x.addField(record, 'z', 0, 1));
            refuses("3 record " + record + " and name", INDEX, (x, n) -> x.addField(record, 0, 0, 1));
            refuses("3 record " + record + " and type", INDEX, (x, n) -> x.addField(record, 'z', 8, 1));
            refuses("3 record " + record + " and count", INDEX, (x, n) -> x.addField(record, 'z', 0, 5));
            refuses("3 record " + record + " and leaves", INDEX, (x, n) -> x.addField(record, 'z', 104, 4));
        }
    }

    /** Each wrong argument with each state in which a record takes no field. */
    private static void addFieldArgumentFirst() {
        int[][] wrong = {{96, 0, 1}, {123, 0, 1}, {'A', 0, 1}, {'a', 0, 1}, {-1, 0, 1}, {Integer.MAX_VALUE, 0, 1},
            {'z', -1, 1}, {'z', 8, 1}, {'z', 20, 1}, {'z', 37, 1}, {'z', 99, 1}, {'z', 101, 1}, {'z', 104, 1},
            {'z', 105, 1}, {'z', 106, 1}, {'z', Integer.MAX_VALUE, 1}, {'z', Integer.MIN_VALUE, 1}, {'z', 0, 0},
            {'z', 0, 5}, {'z', 0, -1}, {'z', 0, Integer.MAX_VALUE}, {'z', 0, Integer.MIN_VALUE}, {'z', 21, 0},
            {'z', 21, 2}, {'z', 36, 4}, {'z', 36, 5}};
        for (int record : new int[] {0, 3, 4}) {
            for (int[] w : wrong) {
                refuses("3 record " + record + " with " + w[0] + " " + w[1] + " " + w[2], ARGUMENT,
                        (x, n) -> x.addField(record, w[0], w[1], w[2]));
            }
        }
        refuses("3 in use by a table, and a name again", ARGUMENT, (x, n) -> x.addField(2, 'q', 0, 1));
        refuses("3 in use by a table, and its own type", ARGUMENT, (x, n) -> x.addField(2, 'z', 102, 1));
        refuses("3 41 leaves, and a name again", ARGUMENT, (x, n) -> x.addField(4, 'd', 0, 1));
        refuses("3 too many leaves, and a wrong count", ARGUMENT, (x, n) -> x.addField(5, 'z', 104, 5));
        refuses("3 nothing else is wrong but the name", ARGUMENT, (x, n) -> x.addField(5, 'a', 0, 1));
    }

    private static void addFieldState() {
        refuses("3 in use as a type", STATE, (x, n) -> x.addField(0, 'z', 0, 1));
        refuses("3 in use as the record of a table", STATE, (x, n) -> x.addField(2, 'z', 0, 1));
        refuses("3 a ninth field", STATE, (x, n) -> x.addField(3, 'z', 0, 1));
        refuses("3 a ninth field with a record", STATE, (x, n) -> x.addField(3, 'z', 100, 4));
        for (int count = 1; count <= 4; count++) {
            int times = count;
            refuses("3 41 leaves and more", STATE, (x, n) -> x.addField(4, 'z', 7, times));
            refuses("3 a record of 40 leaves " + count + " times", STATE, (x, n) -> x.addField(5, 'z', 104, times));
        }
        refuses("3 41 leaves by a bit field", STATE, (x, n) -> x.addField(4, 'z', 21, 1));
    }

    private static void infos() {
        for (int number : NO_RECORD) {
            refuses("5 record and what", INDEX, (x, n) -> x.recordInfo(number, 7));
            refuses("6 record and what", INDEX, (x, n) -> x.fieldInfo(number, 0, 6));
            refuses("6 record and field", INDEX, (x, n) -> x.fieldInfo(number, 9, 0));
            refuses("6 field and what", INDEX, (x, n) -> x.fieldInfo(5, number, -1));
            refuses("7 record and what", INDEX, (x, n) -> x.leafInfo(number, 0, 4));
            refuses("7 leaf and what", INDEX, (x, n) -> x.leafInfo(5, number, -1));
            refuses("8 record", INDEX, (x, n) -> x.pathByte(number, 0, 0));
            refuses("8 leaf", INDEX, (x, n) -> x.pathByte(5, number, 0));
            refuses("9 record", INDEX, (x, n) -> x.findLeaf(number));
            refuses("10 record", INDEX, (x, n) -> x.bestSize(number));
            refuses("11 record", INDEX, (x, n) -> x.bestOrder(number, 0));
            refuses("11 position", INDEX, (x, n) -> x.bestOrder(5, number));
        }
        for (int what : new int[] {-1, 7, 8, Integer.MIN_VALUE, Integer.MAX_VALUE}) {
            refuses("5 what " + what, ARGUMENT, (x, n) -> x.recordInfo(5, what));
            refuses("6 what " + what, ARGUMENT, (x, n) -> x.fieldInfo(5, 0, what));
            refuses("7 what " + what, ARGUMENT, (x, n) -> x.leafInfo(5, 0, what));
            refuses("18 what " + what, ARGUMENT, (x, n) -> x.tableInfo(1, what));
        }
        refuses("6 a record without fields", INDEX, (x, n) -> x.fieldInfo(1, 0, 9));
        refuses("7 a record without leaves", INDEX, (x, n) -> x.leafInfo(1, 0, 9));
        refuses("8 a record without leaves", INDEX, (x, n) -> x.pathByte(1, 0, 0));
        refuses("11 a record without fields", INDEX, (x, n) -> x.bestOrder(1, 0));
    }

    private static void texts() {
        RecordLayouts x = Bounds.written("a".repeat(80));
        for (int value : new int[] {-1, 128, 256, Integer.MIN_VALUE, Integer.MAX_VALUE}) {
            refuses("12 byte " + value, ARGUMENT, (y, n) -> y.append(value));
            Check.argument("12 byte " + value + " and a full text", x, () -> x.append(value));
        }
        for (int value : new int[] {0, 'b', 127}) {
            Check.state("12 an 81st byte " + value, x, () -> x.append(value));
        }
        Check.due("14 the text is as it was", x.define(8), -11);
        Check.due("13 its length", x.clearText(), 80);
    }

    private static void define() {
        for (int pack : NO_PACK) {
            refuses("14 pack " + pack + ", six records and a syntax error", ARGUMENT, (x, n) -> x.define(pack));
            refusesRoomy("14 pack " + pack, ARGUMENT, (x, n) -> x.define(pack));
        }
        for (int pack : new int[] {1, 2, 4, 8}) {
            refuses("14 six records and a syntax error", STATE, (x, n) -> x.define(pack));
        }
        RecordLayouts x = full();
        Check.write(x, "a:b;");
        Check.state("14 six records", x, () -> x.define(8));
        Check.argument("14 pack and six records", x, () -> x.define(6));
        x.clearText();
        Check.state("14 six records and an empty text", x, () -> x.define(8));
        RecordLayouts y = Bounds.records(8, "a:b;");
        Check.write(y, "b:?");
        Check.argument("14 pack and a syntax error", y, () -> y.define(0));
        Check.due("14 the syntax error alone", y.define(1), -12);
    }

    private static void newTable() {
        for (int record : NO_RECORD) {
            refuses("15 record and three tables", INDEX, (x, n) -> x.newTable(record, 1, 0, 0));
            refuses("15 record and rows", INDEX, (x, n) -> x.newTable(record, 0, 0, 0));
            refuses("15 record and layout", INDEX, (x, n) -> x.newTable(record, 1, 9, 0));
            refuses("15 record and order", INDEX, (x, n) -> x.newTable(record, 1, 0, 2));
        }
        refuses("15 three tables", STATE, (x, n) -> x.newTable(5, 1, 0, 0));
        refuses("15 three tables and no fields", STATE, (x, n) -> x.newTable(1, 1, 0, 0));
        refuses("15 three tables and no room", STATE, (x, n) -> x.newTable(4, 12, 0, 0));
        refusesRoomy("15 no fields", STATE, (x, n) -> x.newTable(1, 1, 0, 0));
        refusesRoomy("15 no room", STATE, (x, n) -> x.newTable(3, 2, 0, 0));
        refusesRoomy("15 record 5 of five", INDEX, (x, n) -> x.newTable(5, 1, 0, 0));
    }

    private static void newTableArgumentFirst() {
        int[][] wrong = {{0, 0, 0}, {13, 0, 0}, {-1, 0, 0}, {Integer.MIN_VALUE, 0, 0}, {Integer.MAX_VALUE, 0, 0},
                {1, -1, 0},
            {1, 9, 0}, {1, Integer.MIN_VALUE, 0}, {1, Integer.MAX_VALUE, 0}, {1, 0, -1}, {1, 0, 2},
            {1, 0, Integer.MIN_VALUE}, {1, 0, Integer.MAX_VALUE}, {0, 9, 2}};
        for (int[] w : wrong) {
            String what = " with " + w[0] + " " + w[1] + " " + w[2];
            refuses("15 three tables" + what, ARGUMENT, (x, n) -> x.newTable(5, w[0], w[1], w[2]));
            refuses("15 three tables, no fields" + what, ARGUMENT, (x, n) -> x.newTable(1, w[0], w[1], w[2]));
            refusesRoomy("15 no fields" + what, ARGUMENT, (x, n) -> x.newTable(1, w[0], w[1], w[2]));
            refusesRoomy("15 no room" + what, ARGUMENT, (x, n) -> x.newTable(4, w[0], w[1], w[2]));
            refusesRoomy("15 nothing else" + what, ARGUMENT, (x, n) -> x.newTable(0, w[0], w[1], w[2]));
        }
    }

    private static void tableNumbers() {
        for (int table : NO_TABLE) {
            refuses("16", INDEX, (x, n) -> x.removeTable(table));
            refuses("18 table and what", INDEX, (x, n) -> x.tableInfo(table, 6));
            refuses("19 table", INDEX, (x, n) -> x.address(table, 0, 0));
            refuses("20 table", INDEX, (x, n) -> x.get(table, 0, 0));
            refuses("21 table", INDEX, (x, n) -> x.set(table, 0, 0, 1));
            refuses("25 table and layout", INDEX, (x, n) -> x.convert(table, 9, 0));
            refuses("25 table and order", INDEX, (x, n) -> x.convert(table, 0, 2));
            refuses("26 table and layout", INDEX, (x, n) -> x.migrate(table, 0, 9));
            refuses("26 table and no fields", INDEX, (x, n) -> x.migrate(table, 1, 0));
            refuses("26 table and record", INDEX, (x, n) -> x.migrate(table, 6, 0));
            refuses("28 table", INDEX, (x, n) -> x.sort(table, 0, true));
            refuses("29 table", INDEX, (x, n) -> x.fill(table, 0, 1, 1));
            refuses("30 table", INDEX, (x, n) -> x.copyRow(table, 0, 1));
            refuses("31 table and relation", INDEX, (x, n) -> x.count(table, 0, 3, 0));
            refuses("32 table", INDEX, (x, n) -> x.findRow(table, 0, 0, 0));
            refuses("33 table", INDEX, (x, n) -> x.sum(table, 0));
            refuses("34 table, from and line", INDEX, (x, n) -> x.lines(table, 1, 1, 0, 17));
            refuses("35 table and from", INDEX, (x, n) -> x.runs(table, 1, 1, 0));
            refuses("36 table and line", INDEX, (x, n) -> x.bestLayout(table, 1, 17));
        }
        refusesRoomy("16 table 2 of two", INDEX, (x, n) -> x.removeTable(2));
        refusesRoomy("20 table 2 of two", INDEX, (x, n) -> x.get(2, 0, 0));
    }

    private static void tableRowsAndLeaves() {
        for (int number : new int[] {-1, 9, Integer.MIN_VALUE, Integer.MAX_VALUE}) {
            refuses("19 row", INDEX, (x, n) -> x.address(1, number, 0));
            refuses("19 leaf", INDEX, (x, n) -> x.address(1, 0, number));
            refuses("20 row", INDEX, (x, n) -> x.get(1, number, 0));
            refuses("20 leaf", INDEX, (x, n) -> x.get(1, 0, number));
            refuses("21 row", INDEX, (x, n) -> x.set(1, number, 0, 1));
            refuses("21 leaf", INDEX, (x, n) -> x.set(1, 0, number, 1));
            refuses("28 leaf", INDEX, (x, n) -> x.sort(1, number, false));
            refuses("29 leaf", INDEX, (x, n) -> x.fill(1, number, 1, 1));
            refuses("30 from", INDEX, (x, n) -> x.copyRow(0, number, 0));
            refuses("30 to", INDEX, (x, n) -> x.copyRow(0, 2, number));
            refuses("33 leaf", INDEX, (x, n) -> x.sum(1, number));
        }
        // Table 1 has 2 rows and 7 leaves, table 0 has 3 of both.
        refuses("21 row 2 of two", INDEX, (x, n) -> x.set(1, 2, 0, 1));
        refuses("21 leaf 7 of seven", INDEX, (x, n) -> x.set(1, 0, 7, 1));
        refuses("28 leaf 7 of seven", INDEX, (x, n) -> x.sort(1, 7, true));
        refuses("29 leaf 3 of three", INDEX, (x, n) -> x.fill(0, 3, 1, 1));
        refuses("30 row 3 of three", INDEX, (x, n) -> x.copyRow(0, 0, 3));
        refuses("30 row 3 of three, twice", INDEX, (x, n) -> x.copyRow(0, 3, 3));
    }

    private static void memory() {
        for (int address : new int[] {-1, 1024, Integer.MIN_VALUE, Integer.MAX_VALUE}) {
            refuses("22 address " + address, INDEX, (x, n) -> x.memory(address));
            refuses("23 address " + address, INDEX, (x, n) -> x.poke(address, 0));
            for (int value : new int[] {-1, 256}) {
                refuses("23 address " + address + " and value", INDEX, (x, n) -> x.poke(address, value));
            }
        }
        for (int value : new int[] {-1, 256, Integer.MIN_VALUE, Integer.MAX_VALUE}) {
            refuses("23 value " + value, ARGUMENT, (x, n) -> x.poke(1023, value));
        }
    }

    private static void convert() {
        refuses("25 no room", STATE, (x, n) -> x.convert(1, 0, 0));
        refuses("25 no room at all", STATE, (x, n) -> x.convert(2, 8, 1));
        for (int layout : NO_LAYOUT) {
            refuses("25 layout " + layout, ARGUMENT, (x, n) -> x.convert(0, layout, 0));
            refuses("25 layout " + layout + " and no room", ARGUMENT, (x, n) -> x.convert(2, layout, 0));
        }
        for (int order : NO_ORDER) {
            refuses("25 order " + order, ARGUMENT, (x, n) -> x.convert(0, 0, order));
            refuses("25 order " + order + " and no room", ARGUMENT, (x, n) -> x.convert(2, 0, order));
        }
    }

    private static void migrate() {
        for (int record : NO_RECORD) {
            refuses("26 record", INDEX, (x, n) -> x.migrate(0, record, 0));
            refuses("26 record and layout", INDEX, (x, n) -> x.migrate(0, record, 9));
            refuses("26 record and no room", INDEX, (x, n) -> x.migrate(2, record, 0));
        }
        for (int layout : NO_LAYOUT) {
            refuses("26 layout " + layout, ARGUMENT, (x, n) -> x.migrate(0, 5, layout));
            refuses("26 layout " + layout + " and no fields", ARGUMENT, (x, n) -> x.migrate(0, 1, layout));
            refuses("26 layout " + layout + " and no room", ARGUMENT, (x, n) -> x.migrate(2, 4, layout));
        }
        refuses("26 no fields", STATE, (x, n) -> x.migrate(0, 1, 0));
        refuses("26 no room", STATE, (x, n) -> x.migrate(0, 4, 0));
        refuses("26 no room for the same record", STATE, (x, n) -> x.migrate(1, 2, 0));
    }

    private static void questions() {
        for (int relation : new int[] {-1, 3, Integer.MIN_VALUE, Integer.MAX_VALUE}) {
            refuses("31 relation " + relation, ARGUMENT, (x, n) -> x.count(1, 0, relation, 0));
            refuses("31 leaf and relation", INDEX, (x, n) -> x.count(1, 7, relation, 0));
            refuses("31 leaf -1 and relation", INDEX, (x, n) -> x.count(1, -1, relation, 0));
        }
        refuses("31 leaf", INDEX, (x, n) -> x.count(1, 7, 0, 0));
        for (int number : new int[] {-1, 9, Integer.MIN_VALUE, Integer.MAX_VALUE}) {
            refuses("32 leaf", INDEX, (x, n) -> x.findRow(1, number, 0, 0));
            refuses("32 row", INDEX, (x, n) -> x.findRow(1, 0, 0, number));
            refuses("32 leaf and row", INDEX, (x, n) -> x.findRow(1, number, 0, number));
        }
    }

    private static void scans() {
        for (int line : NO_LINE) {
            refuses("34 line " + line, ARGUMENT, (x, n) -> x.lines(0, 1, 0, 2, line));
            refuses("34 from greater than to and line", ARGUMENT, (x, n) -> x.lines(0, 1, 2, 0, line));
            refuses("34 from and line", INDEX, (x, n) -> x.lines(0, 1, 3, 3, line));
            refuses("34 to and line", INDEX, (x, n) -> x.lines(0, 1, 0, 3, line));
            refuses("36 line " + line, ARGUMENT, (x, n) -> x.bestLayout(0, 1, line));
        }
        for (int row : new int[] {-1, 3, Integer.MIN_VALUE, Integer.MAX_VALUE}) {
            refuses("34 from " + row, INDEX, (x, n) -> x.lines(0, 1, row, 2, 16));
            refuses("34 to " + row, INDEX, (x, n) -> x.lines(0, 1, 0, row, 16));
            refuses("34 from " + row + ", greater than to", INDEX, (x, n) -> x.lines(0, 1, row, -5, 16));
            refuses("34 to " + row + ", less than from", INDEX, (x, n) -> x.lines(0, 1, 1, row, 16));
            refuses("35 from " + row, INDEX, (x, n) -> x.runs(0, 1, row, 2));
            refuses("35 to " + row, INDEX, (x, n) -> x.runs(0, 1, 0, row));
            refuses("35 from " + row + ", greater than to", INDEX, (x, n) -> x.runs(0, 1, row, -5));
            refuses("35 to " + row + ", less than from", INDEX, (x, n) -> x.runs(0, 1, 1, row));
        }
        refuses("34 from greater than to", ARGUMENT, (x, n) -> x.lines(0, 0, 1, 0, 16));
        refuses("35 from greater than to", ARGUMENT, (x, n) -> x.runs(0, 0, 2, 1));
    }

    private static void undo() {
        RecordLayouts x = full();
        for (int i = 0; i < 4; i++) {
            x.undo();
        }
        String before = whole(Bounds.made(() -> {
            RecordLayouts y = full();
            for (int i = 0; i < 4; i++) {
                y.undo();
            }
            return y;
        }));
        Check.state("37 no state is saved", x, () -> x.undo());
        Check.state("37 no state is saved", x, () -> x.undo());
        Check.due("37 nothing changes", whole(x), before);
    }

    /** "NONE is returned only if no exception applies." */
    private static void noneOnlyWithoutException() {
        for (int index : List.of(-1, 0, 99, Integer.MIN_VALUE, Integer.MAX_VALUE)) {
            refuses("8 no leaf and no byte " + index, INDEX, (x, n) -> x.pathByte(5, 1, index));
            refuses("8 no record and no byte " + index, INDEX, (x, n) -> x.pathByte(6, 0, index));
            refuses("8 leaf -1 and no byte " + index, INDEX, (x, n) -> x.pathByte(5, -1, index));
        }
        RecordLayouts x = full();
        Check.due("8 no byte alone", x.pathByte(5, 0, 1), RecordLayouts.NONE);
        Check.due("9 no leaf with this path", x.findLeaf(5), RecordLayouts.NONE);
        Check.due("32 no row with this value", x.findRow(0, 2, 5, 2), RecordLayouts.NONE);
        refuses("9 no such record, whatever the text is", INDEX, (y, n) -> y.findLeaf(6));
        refuses("32 no such row, and the value is not there", INDEX, (y, n) -> y.findRow(0, 2, 5, 3));
        refuses("32 no such leaf, and no row from there on", INDEX, (y, n) -> y.findRow(0, 3, 5, 2));
    }
}
