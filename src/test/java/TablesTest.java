/** Promises 15 to 24: tables, their places in memory, and what is read and written there. */
public final class TablesTest {
    public static void main(String[] args) {
        newTable();
        newTableRefuses();
        room();
        removeTable();
        tableInfo();
        rowsAddresses();
        columnAddresses();
        blockAddresses();
        values();
        bitFields();
        memory();
        freeBytes();
        Check.finish();
    }

    private static void newTable() {
        RecordLayouts x = new RecordLayouts();
        Check.record(x, 8, "a:i8;b:i16;");
        Check.due("17 no tables", x.tables(), 0);
        x.poke(0, 1);
        x.poke(15, 2);
        x.poke(16, 3);
        Check.due("15 newTable", x.newTable(0, 4, 0, 0), 0);
        Check.due("15 its bytes become 0", Check.bytes(x, 0, 17), "00".repeat(16) + "03");
        Check.due("15 newTable", x.newTable(0, 12, 1, 1), 1);
        Check.due("15 newTable", x.newTable(0, 1, 8, 0), 2);
        Check.due("17 three tables", x.tables(), 7);
        Check.state("15 a fourth table", x, () -> x.newTable(0, 1, 0, 0));
        x.removeTable(1);
        Check.due("17 two tables", x.tables(), 5);
        Check.due("15 the lowest number that is free", x.newTable(0, 1, 0, 0), 1);
        Check.due("15 the lowest room", x.tableInfo(1, 4), 16);
        Check.due("15 undoable", x.undo(), 3);
        Check.due("15 undone", x.tables(), 5);
    }

    private static void newTableRefuses() {
        RecordLayouts x = new RecordLayouts();
        Check.index("15 no record", x, () -> x.newTable(0, 1, 0, 0));
        x.newRecord(8);
        Check.state("15 no fields", x, () -> x.newTable(0, 1, 0, 0));
        Check.argument("15 no fields, but the argument first", x, () -> x.newTable(0, 0, 0, 0));
        x.addField(0, 'a', 0, 1);
        Check.index("15 record 1, with all else wrong, too", x, () -> x.newTable(1, 0, 9, 2));
        Check.index("15 record -1", x, () -> x.newTable(-1, 1, 0, 0));
        for (int rows : new int[] {0, 13, -1, Integer.MAX_VALUE}) {
            Check.argument("15 rows " + rows, x, () -> x.newTable(0, rows, 0, 0));
        }
        for (int layout : new int[] {-1, 9, Integer.MIN_VALUE}) {
            Check.argument("15 layout " + layout, x, () -> x.newTable(0, 1, layout, 0));
        }
        for (int order : new int[] {-1, 2}) {
            Check.argument("15 order " + order, x, () -> x.newTable(0, 1, 0, order));
        }
        Check.due("15 all in range", x.newTable(0, 12, 8, 1), 0);
    }

    private static void room() {
        RecordLayouts x = new RecordLayouts();
        Check.record(x, 8, "a:i64[4];b:i64[4];c:i64[3];");
        Check.due("15 88 bytes a row", x.recordInfo(0, 2), 88);
        Check.state("15 1056 bytes", x, () -> x.newTable(0, 12, 0, 0));
        Check.due("15 968 bytes", x.newTable(0, 11, 0, 0), 0);
        Check.due("15 968 bytes", x.tableInfo(0, 5), 968);
        Check.record(x, 1, "a:i64[4];b:i64;c:i8[4];d:i16;e:b;");
        Check.due("15 47 bytes a row", x.recordInfo(1, 2), 47);
        Check.due("15 48 bytes behind 976", x.newTable(1, 1, 0, 0), 1);
        Check.due("15 the multiple of 16 behind 968", x.tableInfo(1, 4), 976);
        Check.record(x, 1, "a:i8;");
        Check.state("15 no room though 8 bytes are free", x, () -> x.newTable(2, 1, 0, 0));
        x.removeTable(0);
        x.newTable(2, 12, 0, 0);
        x.newTable(2, 1, 0, 0);
        Check.due("15 16 bytes for 12", x.tableInfo(0, 5), 16);
        Check.due("15 behind them", x.tableInfo(2, 4), 16);
        x.removeTable(0);
        Check.state("15 from 32 to 976 is too little", x, () -> x.newTable(0, 11, 0, 0));
        Check.due("15 a gap that is large enough", x.newTable(0, 10, 0, 0), 0);
        Check.due("15 behind the table at 16", x.tableInfo(0, 4), 32);
        x.removeTable(0);
        Check.due("15 the gap of 16 bytes is enough", x.newTable(2, 11, 0, 0), 0);
        Check.due("15 at 0", x.tableInfo(0, 4), 0);
    }

    private static void removeTable() {
        RecordLayouts x = new RecordLayouts();
        Check.index("16 no table", x, () -> x.removeTable(0));
        Check.record(x, 8, "a:i32;");
        x.newTable(0, 3, 0, 0);
        x.fill(0, 0, 0x01020304, 0x10101010);
        Check.index("16 table 1", x, () -> x.removeTable(1));
        Check.index("16 table -1", x, () -> x.removeTable(-1));
        Check.index("16 table 3", x, () -> x.removeTable(3));
        Check.due("16 removeTable", x.removeTable(0), 16);
        Check.due("16 its bytes stay", Check.bytes(x, 0, 16), "040302011413121124232221" + "00000000");
        Check.index("16 removed already", x, () -> x.removeTable(0));
        Check.due("17 no tables", x.tables(), 0);
        x.undo();
        Check.due("16 undoable", x.tables(), 1);
        Check.due("16 undone", x.get(0, 2, 0), 0x21222324);
    }

    private static void tableInfo() {
        RecordLayouts x = new RecordLayouts();
        Check.record(x, 8, "a:i32;");
        Check.record(x, 8, "a:i32;b:u8;");
        x.newTable(0, 7, 1, 0);
        x.newTable(1, 5, 3, 1);
        int[] want = {1, 5, 3, 1, 32, 32};
        for (int what = 0; what <= 5; what++) {
            Check.due("18 tableInfo " + what, x.tableInfo(1, what), want[what]);
        }
        Check.argument("18 what 6", x, () -> x.tableInfo(1, 6));
        Check.argument("18 what -1", x, () -> x.tableInfo(1, -1));
        Check.index("18 table 2", x, () -> x.tableInfo(2, 6));
        Check.index("18 table -1", x, () -> x.tableInfo(-1, 0));
    }

    private static RecordLayouts mixed(int layout, int order) {
        RecordLayouts x = new RecordLayouts();
        Check.record(x, 8, "a:i32;");
        Check.record(x, 8, "a:i8;b:%3;c:%4;d:i64;");
        x.newTable(0, 1, 0, 0);
        x.newTable(1, 5, layout, order);
        return x;
    }

    private static void addresses(String what, RecordLayouts x, int[][] want) {
        for (int row = 0; row < 5; row++) {
            for (int leaf = 0; leaf < 4; leaf++) {
                Check.due(what + " row " + row + " leaf " + leaf, x.address(1, row, leaf), want[row][leaf]);
            }
        }
        Check.index("19 table 2", x, () -> x.address(2, 0, 0));
        Check.index("19 row 5", x, () -> x.address(1, 5, 0));
        Check.index("19 row -1", x, () -> x.address(1, -1, 0));
        Check.index("19 leaf 4", x, () -> x.address(1, 0, 4));
        Check.index("19 leaf -1", x, () -> x.address(1, 0, -1));
    }

    private static void rowsAddresses() {
        RecordLayouts x = mixed(0, 0);
        Check.due("18 bytes by rows", x.tableInfo(1, 5), 80);
        addresses("19 by rows", x, new int[][] {{16, 18, 18, 24}, {32, 34, 34, 40}, {48, 50, 50, 56},
            {64, 66, 66, 72}, {80, 82, 82, 88}});
    }

    private static void columnAddresses() {
        RecordLayouts x = mixed(1, 1);
        // Distances: 0 to 5, 6 to 16, 16 to 26, 32 to 72.
        Check.due("18 bytes by columns", x.tableInfo(1, 5), 72);
        addresses("19 by columns", x, new int[][] {{16, 22, 32, 48}, {17, 24, 34, 56}, {18, 26, 36, 64},
            {19, 28, 38, 72}, {20, 30, 40, 80}});
    }

    private static void blockAddresses() {
        RecordLayouts x = mixed(2, 0);
        // A block: 0 to 2, 2 to 6, 6 to 10, 16 to 32.
        Check.due("18 bytes in blocks", x.tableInfo(1, 5), 96);
        addresses("19 in blocks", x, new int[][] {{16, 18, 22, 32}, {17, 20, 24, 40}, {48, 50, 54, 64},
            {49, 52, 56, 72}, {80, 82, 86, 96}});
        RecordLayouts y = new RecordLayouts();
        Check.record(y, 8, "a:i8;");
        y.newTable(0, 12, 8, 0);
        Check.due("18 two blocks of 8", y.tableInfo(0, 5), 16);
        y.newTable(0, 9, 3, 0);
        Check.due("18 three blocks of 3, each rounded up", y.tableInfo(1, 5), 24);
        Check.due("19 the last row of the last block", y.address(1, 8, 0), 16 + 18);
        y.newTable(0, 1, 5, 0);
        Check.due("18 one block of 5", y.tableInfo(2, 5), 8);
    }

    private static void stored(int type, long value, long read, String low, String high) {
        for (int order = 0; order <= 1; order++) {
            for (int layout = 0; layout <= 8; layout++) {
                RecordLayouts x = new RecordLayouts();
                x.newRecord(8);
                x.addField(0, 'a', type, 1);
                x.newTable(0, 1, layout, order);
                String what = "21 type " + type + " value " + value + " layout " + layout + " order " + order;
                Check.due(what + " before", x.set(0, 0, 0, value), 0);
                Check.due(what, x.get(0, 0, 0), read);
                Check.due(what + " bytes", Check.bytes(x, 0, low.length() / 2), order == 0 ? low : high);
                Check.due(what + " value before", x.set(0, 0, 0, 0), read);
                Check.due(what + " undoable", x.undo(), 3);
                Check.due(what + " undone", x.get(0, 0, 0), read);
            }
        }
    }

    private static void values() {
        stored(0, 200, -56, "c8", "c8");
        stored(0, -129, 127, "7f", "7f");
        stored(1, 200, 200, "c8", "c8");
        stored(1, -1, 255, "ff", "ff");
        stored(2, 0x12348765L, -30875, "6587", "8765");
        stored(3, 0x12348765L, 0x8765, "6587", "8765");
        stored(4, 0x1FFFFFFFEL, -2, "feffffff", "fffffffe");
        stored(4, 0x80000000L, Integer.MIN_VALUE, "00000080", "80000000");
        stored(5, -2, 0xFFFFFFFEL, "feffffff", "fffffffe");
        stored(6, 0x8123456789ABCDEFL, 0x8123456789ABCDEFL, "efcdab8967452381", "8123456789abcdef");
        stored(6, Long.MAX_VALUE, Long.MAX_VALUE, "ffffffffffffff7f", "7fffffffffffffff");
        stored(7, 256, 1, "01", "01");
        stored(7, Long.MIN_VALUE, 1, "01", "01");
        stored(7, 0, 0, "00", "00");
        stored(21, 3, 1, "0100", "0001");
        stored(32, -1, 4095, "ff0f", "0fff");
        stored(36, 0x12345, 0x2345, "4523", "2345");
        RecordLayouts x = new RecordLayouts();
        Check.record(x, 8, "a:b;b:i8;");
        x.newTable(0, 2, 0, 0);
        x.poke(2, 128);
        Check.due("20 a b whose byte is 128", x.get(0, 1, 0), 1);
        Check.due("21 the b before", x.set(0, 1, 0, 5), 1);
        Check.due("21 1 is stored", x.memory(2), 1);
        Check.index("20 table 1", x, () -> x.get(1, 0, 0));
        Check.index("20 row 2", x, () -> x.get(0, 2, 0));
        Check.index("20 row -1", x, () -> x.get(0, -1, 0));
        Check.index("20 leaf 2", x, () -> x.get(0, 0, 2));
        Check.index("20 leaf -1", x, () -> x.get(0, 0, -1));
        Check.index("21 table -1", x, () -> x.set(-1, 0, 0, 0));
        Check.index("21 row 2", x, () -> x.set(0, 2, 0, 0));
        Check.index("21 leaf 2", x, () -> x.set(0, 0, 2, 0));
    }

    private static void bitFields() {
        for (int order = 0; order <= 1; order++) {
            RecordLayouts x = new RecordLayouts();
            Check.record(x, 8, "a:%3;b:%9;c:%3;");
            x.newTable(0, 2, 0, order);
            x.set(0, 1, 1, 0x1AB);
            // 0x1AB << 3
            Check.due("21 in the middle of its unit", Check.bytes(x, 2, 4), order == 0 ? "580d" : "0d58");
            x.set(0, 1, 0, -1);
            x.set(0, 1, 2, 0xFD);
            Check.due("21 the other bits stay", x.get(0, 1, 1), 0x1AB);
            Check.due("20 the lowest bits", x.get(0, 1, 0), 7);
            Check.due("20 the upper bits", x.get(0, 1, 2), 5);
            x.poke(order == 0 ? 3 : 2, 0xFF);
            x.set(0, 1, 2, 0);
            Check.due("21 the unused bit stays", x.memory(order == 0 ? 3 : 2), 0x8F);
            x.newTable(0, 3, 1, order);
            x.poke(x.address(1, 2, 1) + order, 0xFF);
            x.poke(x.address(1, 2, 1) + 1 - order, 0xFF);
            x.set(1, 2, 1, 2);
            Check.due("21 in a column from the lowest bit on", x.memory(x.address(1, 2, 1) + order), 2);
            Check.due("21 its other bits stay", x.memory(x.address(1, 2, 1) + 1 - order), 0xFE);
            Check.due("20 only its bits are read", x.get(1, 2, 1), 2);
        }
    }

    private static void memory() {
        RecordLayouts x = new RecordLayouts();
        Check.due("22 first", x.memory(0), 0);
        Check.due("22 last", x.memory(1023), 0);
        Check.index("22 address -1", x, () -> x.memory(-1));
        Check.index("22 address 1024", x, () -> x.memory(1024));
        Check.due("23 poke", x.poke(1023, 255), 0);
        Check.due("22 the byte", x.memory(1023), 255);
        Check.due("23 poke again", x.poke(1023, 128), 255);
        Check.due("23 undoable", x.undo(), 1);
        Check.due("23 undone", x.memory(1023), 255);
        Check.index("23 address 1024 and value 256", x, () -> x.poke(1024, 256));
        Check.index("23 address -1", x, () -> x.poke(-1, 0));
        Check.argument("23 value 256", x, () -> x.poke(0, 256));
        Check.argument("23 value -1", x, () -> x.poke(0, -1));
    }

    private static void freeBytes() {
        RecordLayouts x = new RecordLayouts();
        Check.due("24 all free", x.freeBytes(false), 1024);
        Check.due("24 all free, largest", x.freeBytes(true), 1024);
        Check.record(x, 8, "a:i64;");
        x.newTable(0, 1, 0, 0);
        Check.due("24 8 bytes less", x.freeBytes(false), 1016);
        Check.due("24 from 16 on", x.freeBytes(true), 1008);
        x.newTable(0, 12, 0, 0);
        x.newTable(0, 12, 0, 0);
        Check.due("24 without three tables", x.freeBytes(false), 1024 - 8 - 96 - 96);
        Check.due("24 behind them", x.freeBytes(true), 1024 - 16 - 192);
        x.removeTable(1);
        Check.due("24 a gap counts", x.freeBytes(false), 1024 - 8 - 96);
        Check.due("24 the gap is not the largest room", x.freeBytes(true), 816);
        Check.record(x, 8, "a:#0[4];b:#0[4];c:#0[4];d:#0[4];");
        x.newTable(1, 6, 0, 0);
        Check.due("24 the rest behind 208 + 768", x.freeBytes(true), 96);
        Check.due("24 a gap and the rest", x.freeBytes(false), 1024 - 8 - 96 - 768);
        RecordLayouts y = new RecordLayouts();
        Check.record(y, 8, "a:i64[4];b:i64[4];");
        Check.record(y, 8, "a:#0[2];");
        Check.due("24 128 bytes", y.recordInfo(1, 2), 128);
        y.newTable(1, 8, 0, 0);
        Check.due("24 nothing free", y.freeBytes(false), 0);
        Check.due("24 no room", y.freeBytes(true), 0);
    }
}
