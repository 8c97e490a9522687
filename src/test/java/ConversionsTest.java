/** Promises 25 to 30: what moves and rewrites tables. */
public final class ConversionsTest {
    public static void main(String[] args) {
        convert();
        convertRefuses();
        convertWritesLeavesOnly();
        migrate();
        migrateRefuses();
        migrateNested();
        compact();
        sort();
        sortWritesLeavesOnly();
        fill();
        copyRow();
        Check.finish();
    }

    private static void convert() {
        RecordLayouts x = new RecordLayouts();
        Check.record(x, 8, "a:i8;b:%3;c:%12;d:i32;e:b;");
        x.newTable(0, 5, 0, 0);
        long[][] values = new long[5][5];
        for (int row = 0; row < 5; row++) {
            for (int leaf = 0; leaf < 5; leaf++) {
                x.set(0, row, leaf, 1234567L * (row + 1) * (leaf + 3) * (row % 2 == 0 ? 1 : -1));
                values[row][leaf] = x.get(0, row, leaf);
            }
        }
        for (int i = 0; i < 18; i++) {
            int layout = i / 2;
            int order = i % 2;
            int oldBase = x.tableInfo(0, 4);
            String old = Check.bytes(x, oldBase, oldBase + x.tableInfo(0, 5));
            int base = x.convert(0, layout, order);
            Check.due("25 base", base, x.tableInfo(0, 4));
            Check.due("25 never its old place", base != oldBase ? 1 : 0, 1);
            Check.due("25 layout", x.tableInfo(0, 2), layout);
            Check.due("25 order", x.tableInfo(0, 3), order);
            if (base >= oldBase + old.length() / 2 || base + x.tableInfo(0, 5) <= oldBase) {
                Check.due("25 the old bytes stay", Check.bytes(x, oldBase, oldBase + old.length() / 2), old);
            }
            for (int row = 0; row < 5; row++) {
                for (int leaf = 0; leaf < 5; leaf++) {
                    Check.due("25 layout " + layout + " order " + order, x.get(0, row, leaf), values[row][leaf]);
                }
            }
        }
        x.undo();
        Check.due("25 undoable", x.tableInfo(0, 3), 0);
        Check.due("25 undone", x.tableInfo(0, 2), 8);
    }

    private static void convertRefuses() {
        RecordLayouts x = new RecordLayouts();
        Check.record(x, 8, "a:i64[4];b:i8[3];");
        Check.index("25 no table", x, () -> x.convert(0, 0, 0));
        x.newTable(0, 12, 0, 0);
        Check.due("25 480 bytes", x.tableInfo(0, 5), 480);
        Check.index("25 table 1 before layout", x, () -> x.convert(1, 9, 2));
        Check.argument("25 layout 9", x, () -> x.convert(0, 9, 0));
        Check.argument("25 layout -1", x, () -> x.convert(0, -1, 0));
        Check.argument("25 order 2", x, () -> x.convert(0, 0, 2));
        Check.argument("25 order -1", x, () -> x.convert(0, 0, -1));
        Check.state("25 640 bytes are too many", x, () -> x.convert(0, 8, 0));
        Check.due("25 the same layout moves, too", x.convert(0, 0, 0), 480);
        Check.state("25 no room before or behind it", x, () -> x.convert(0, 8, 1));
        Check.due("25 back to the lowest room", x.convert(0, 1, 0), 0);
    }

    private static void convertWritesLeavesOnly() {
        RecordLayouts x = new RecordLayouts();
        Check.record(x, 8, "a:b;b:i16;c:%3;");
        x.newTable(0, 2, 0, 0);
        for (int i = 0; i < 64; i++) {
            x.poke(i, 0xEE);
        }
        Check.due("25 behind the 16 bytes", x.convert(0, 0, 1), 16);
        Check.due("25 padding and unused bits are 0, a b is 1", Check.bytes(x, 0, 40),
                "ee".repeat(16) + "0100eeee00060100eeee0006" + "00000000" + "ee".repeat(8));
    }

    private static void migrate() {
        RecordLayouts x = new RecordLayouts();
        Check.record(x, 8, "a:i8;b:u16;c:i32[2];d:%4;e:b;");
        Check.record(x, 8, "e:i8;c:u8[2];a:u32;d:b;z:i64;b:%5;");
        Check.record(x, 8, "c:i32;y:i8;");
        x.newTable(0, 2, 0, 1);
        long[] old = {-3, 40000, 300, -70000, 6, 1};
        for (int leaf = 0; leaf < 6; leaf++) {
            x.set(0, 1, leaf, old[leaf]);
        }
        Check.due("26 migrate", x.migrate(0, 1, 1), 6);
        long[] fresh = {1, 44, 144, 4294967293L, 1, 0, 0};
        for (int leaf = 0; leaf < 7; leaf++) {
            Check.due("26 leaf " + leaf, x.get(0, 1, leaf), fresh[leaf]);
            Check.due("26 leaf of the other row " + leaf, x.get(0, 0, leaf), 0);
        }
        int[] info = {1, 2, 1, 1, 32};
        for (int what = 0; what < 5; what++) {
            Check.due("26 tableInfo " + what, x.tableInfo(0, what), info[what]);
        }
        Check.due("26 the new record is in use", x.recordInfo(1, 6), 1);
        Check.due("26 the old one is not", x.recordInfo(0, 6), 0);
        Check.due("26 no path in common", x.migrate(0, 2, 0), 0);
        Check.due("26 all are 0", x.sum(0, 0), 0);
        Check.due("26 undoable", x.undo(), 3);
        Check.due("26 undone", x.get(0, 1, 3), 4294967293L);
        Check.due("26 the record undone", x.tableInfo(0, 0), 1);
    }

    private static void migrateRefuses() {
        RecordLayouts x = new RecordLayouts();
        Check.record(x, 8, "a:i8;");
        Check.index("26 no table", x, () -> x.migrate(0, 0, 0));
        x.newTable(0, 12, 0, 0);
        x.newRecord(8);
        Check.index("26 record 2 before layout", x, () -> x.migrate(0, 2, 9));
        Check.index("26 record -1", x, () -> x.migrate(0, -1, 0));
        Check.index("26 table 1", x, () -> x.migrate(1, 0, 0));
        Check.argument("26 layout 9 before no fields", x, () -> x.migrate(0, 1, 9));
        Check.argument("26 layout -1", x, () -> x.migrate(0, 0, -1));
        Check.state("26 no fields", x, () -> x.migrate(0, 1, 0));
        Check.record(x, 8, "a:i64[4];b:i64[4];c:i64[3];");
        Check.state("26 no room", x, () -> x.migrate(0, 2, 0));
        Check.due("26 the same record", x.migrate(0, 0, 1), 1);
        Check.due("26 moved", x.tableInfo(0, 4), 16);
    }

    private static void migrateNested() {
        RecordLayouts x = new RecordLayouts();
        Check.record(x, 8, "x:i16;y:%6;");
        Check.record(x, 8, "p:#0[2];q:#0;r:i8;");
        Check.record(x, 2, "y:i64;x:u8;w:b;");
        Check.record(x, 4, "r:i8[2];q:#2;p:#2[3];");
        x.newTable(1, 3, 2, 0);
        for (int leaf = 0; leaf < 7; leaf++) {
            x.fill(0, leaf, 10 * leaf + 1, 1);
        }
        // Of r[0] r[1] q.y q.x q.w p[0].y p[0].x p[0].w p[1].y p[1].x ... those of q, p[0] and p[1] are there.
        Check.due("26 nested", x.migrate(0, 3, 3), 6);
        long[] want = {0, 0, 53, 43, 0, 13, 3, 0, 33, 23, 0, 0, 0, 0};
        for (int leaf = 0; leaf < want.length; leaf++) {
            Check.due("26 nested leaf " + leaf + " " + Check.path(x, 3, leaf), x.get(0, 2, leaf), want[leaf]);
        }
    }

    private static void compact() {
        RecordLayouts x = new RecordLayouts();
        Check.due("27 without tables", x.compact(), 0);
        Check.due("27 it is undoable even then", x.undo(), 0);
        Check.record(x, 8, "a:i64;");
        x.newTable(0, 3, 0, 0);
        x.newTable(0, 5, 0, 0);
        x.newTable(0, 11, 0, 1);
        x.fill(2, 0, 1, 1);
        x.fill(1, 0, 100, 1);
        Check.due("27 nothing moves", x.compact(), 0);
        Check.due("27 base 0", x.tableInfo(0, 4), 0);
        Check.due("27 base 32", x.tableInfo(1, 4), 32);
        Check.due("27 base 80", x.tableInfo(2, 4), 80);
        x.removeTable(0);
        Check.due("27 both move", x.compact(), 2);
        Check.due("27 the first one to 0", x.tableInfo(1, 4), 0);
        Check.due("27 the next multiple of 16", x.tableInfo(2, 4), 48);
        for (int row = 0; row < 11; row++) {
            Check.due("27 its bytes are copied over its own ones", x.get(2, row, 0), row + 1);
        }
        Check.due("27 the other one's, too", x.sum(1, 0), 510);
        Check.due("27 the bytes behind stay", x.memory(80 + 87), 11);
        Check.due("27 undoable", x.undo(), 3);
        Check.due("27 undone", x.tableInfo(2, 4), 80);
        // By the bases, not by the numbers: table 0 is now the last one.
        x.newTable(0, 12, 0, 0);
        Check.due("27 table 0 is the last one", x.tableInfo(0, 4), 176);
        x.fill(0, 0, -5, 1);
        Check.due("27 all three", x.compact(), 3);
        Check.due("27 base of table 1", x.tableInfo(1, 4), 0);
        Check.due("27 base of table 2", x.tableInfo(2, 4), 48);
        Check.due("27 base of table 0", x.tableInfo(0, 4), 144);
        Check.due("27 values of table 0", x.get(0, 11, 0), 6);
    }

    private static void sort() {
        RecordLayouts x = new RecordLayouts();
        Check.record(x, 8, "k:i8;v:u16;w:%5;");
        for (int layout = 0; layout <= 8; layout++) {
            RecordLayouts y = new RecordLayouts();
            Check.record(y, 8, "k:i8;v:u16;w:%5;");
            y.newTable(0, 6, layout, layout % 2);
            long[] keys = {3, -1, 3, 0, -1, 7};
            for (int row = 0; row < 6; row++) {
                y.set(0, row, 0, keys[row]);
                y.set(0, row, 1, row);
                y.set(0, row, 2, 10 + row);
            }
            Check.due("28 ascending", y.sort(0, 0, false), 5);
            order("28 ascending", y, 1, 4, 3, 0, 2, 5);
            Check.due("28 sorted already", y.sort(0, 0, false), 0);
            Check.due("28 descending keeps the order of equal ones", y.sort(0, 0, true), 6);
            order("28 descending", y, 5, 0, 2, 3, 1, 4);
            Check.due("28 undoable", y.undo(), 3);
            order("28 undone", y, 1, 4, 3, 0, 2, 5);
        }
        Check.index("28 table 0", x, () -> x.sort(0, 0, false));
        x.newTable(0, 1, 0, 0);
        Check.due("28 one row", x.sort(0, 2, true), 0);
        Check.index("28 leaf 3", x, () -> x.sort(0, 3, false));
        Check.index("28 leaf -1", x, () -> x.sort(0, -1, false));
        Check.index("28 table -1", x, () -> x.sort(-1, 0, false));
    }

    private static void order(String what, RecordLayouts y, int... rows) {
        for (int row = 0; row < rows.length; row++) {
            Check.due(what + " row " + row, y.get(0, row, 1), rows[row]);
            Check.due(what + " bits of row " + row, y.get(0, row, 2), 10 + rows[row]);
        }
    }

    private static void sortWritesLeavesOnly() {
        RecordLayouts x = new RecordLayouts();
        Check.record(x, 8, "a:u8;b:u16;c:%4;d:b;");
        x.newTable(0, 2, 0, 0);
        String[] rows = {"09e101f0f2e307e4", "08e502f0f3e700e8"};
        for (int i = 0; i < 16; i++) {
            x.poke(i, Integer.parseInt(rows[i / 8].substring(i % 8 * 2, i % 8 * 2 + 2), 16));
        }
        Check.due("28 two rows change places", x.sort(0, 0, false), 2);
        Check.due("28 padding and unused bits stay", Check.bytes(x, 0, 16), "08e102f0f3e300e4" + "09e501f0f2e701e8");
        x.poke(6, 9);
        Check.due("28 nothing moves", x.sort(0, 0, false), 0);
        Check.due("28 but a b is written anew", x.memory(6), 1);
    }

    private static void fill() {
        RecordLayouts x = new RecordLayouts();
        Check.record(x, 8, "a:i64;b:%3;c:b;");
        x.newTable(0, 12, 3, 1);
        Check.due("29 fill", x.fill(0, 0, Long.MAX_VALUE - 1, 1), 12);
        Check.due("29 row 0", x.get(0, 0, 0), Long.MAX_VALUE - 1);
        Check.due("29 row 2 overflows", x.get(0, 2, 0), Long.MIN_VALUE);
        Check.due("29 row 11", x.get(0, 11, 0), Long.MIN_VALUE + 9);
        x.fill(0, 0, 1, Long.MIN_VALUE + 3);
        Check.due("29 the step overflows", x.get(0, 2, 0), 7);
        x.fill(0, 1, 5, -2);
        Check.due("29 the lowest bits", x.get(0, 3, 1), 7);
        x.fill(0, 2, -2, 1);
        Check.due("29 a b", x.sum(0, 2), 11);
        Check.due("29 undoable", x.undo(), 3);
        Check.due("29 undone", x.sum(0, 2), 0);
        Check.index("29 leaf 3", x, () -> x.fill(0, 3, 0, 0));
        Check.index("29 leaf -1", x, () -> x.fill(0, -1, 0, 0));
        Check.index("29 table 1", x, () -> x.fill(1, 0, 0, 0));
    }

    private static void copyRow() {
        RecordLayouts x = new RecordLayouts();
        Check.record(x, 8, "a:i8;b:i32;c:%5;d:b;");
        x.newTable(0, 3, 0, 0);
        x.set(0, 1, 0, -7);
        x.set(0, 1, 1, 123456789);
        x.set(0, 1, 2, 21);
        x.poke(x.address(0, 1, 3), 6);
        x.poke(1, 0xAA);
        Check.due("30 all change", x.copyRow(0, 1, 0), 4);
        long[] want = {-7, 123456789, 21, 1};
        for (int leaf = 0; leaf < 4; leaf++) {
            Check.due("30 leaf " + leaf, x.get(0, 0, leaf), want[leaf]);
        }
        Check.due("30 padding stays", x.memory(1), 0xAA);
        Check.due("30 a b becomes 1", x.memory(x.address(0, 0, 3)), 1);
        Check.due("30 nothing changes", x.copyRow(0, 1, 0), 0);
        Check.due("30 to itself", x.copyRow(0, 1, 1), 0);
        Check.due("30 to itself it is written anew", x.memory(x.address(0, 1, 3)), 1);
        x.set(0, 2, 2, 21);
        Check.due("30 three change", x.copyRow(0, 0, 2), 3);
        Check.due("30 undoable", x.undo(), 3);
        Check.due("30 undone", x.get(0, 2, 1), 0);
        Check.index("30 from 3", x, () -> x.copyRow(0, 3, 0));
        Check.index("30 to 3", x, () -> x.copyRow(0, 0, 3));
        Check.index("30 from -1", x, () -> x.copyRow(0, -1, 0));
        Check.index("30 to -1", x, () -> x.copyRow(0, 0, -1));
        Check.index("30 table 1", x, () -> x.copyRow(1, 0, 0));
    }
}
