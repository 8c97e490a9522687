/** One test for each sentence of MEMORY AND TABLES, and of promises 15 to 24, that names a boundary case. */
public final class BoundsTablesTest {
    public static void main(String[] args) {
        memoryIsInitiallyZero();
        addressesOfTheMemory();
        valueOfAByte();
        atMostThreeTables();
        lowestNumberThatIsFree();
        rowsLayoutAndOrder();
        recordWithAtLeastOneField();
        rowsAreRoundedUpToEight();
        columnBeginsAtAMultiple();
        columnsAreRoundedUpToEight();
        lastBlockHasRoomForAllRows();
        rowsAtTheEdgesOfBlocks();
        leavesDoNotMeet();
        roomIsTheLowest();
        roomAtAMultipleOfSixteen();
        roomUpToTheEnd();
        roomBetweenTables();
        noRoom();
        createdWithZeros();
        removedBytesStay();
        eachTableForItself();
        numbersOfTables();
        numbersOfRows();
        numbersOfLeaves();
        numbersOfWhat();
        lowestBitsAreStored();
        bitFieldsOfAllWidths();
        byteOfABoolean();
        otherBitsStay();
        otherBytesStay();
        byteOrders();
        freeOfNoneAndAll();
        largestFree();
        Check.finish();
    }

    // ---- the memory

    /** "There are 1024 bytes of memory, with addresses from 0, initially 0." */
    private static void memoryIsInitiallyZero() {
        for (int from = 0; from < 1024; from += 256) {
            RecordLayouts x = new RecordLayouts();
            for (int address = from; address < from + 256; address++) {
                Check.due("22 byte " + address, x.memory(address), 0);
            }
        }
    }

    /** "Throws IndexOutOfBoundsException if there is no such address" */
    private static void addressesOfTheMemory() {
        Bounds.range("22 address", IndexOutOfBoundsException.class, a -> a >= 0 && a < 1024,
                RecordLayouts::new, (x, a) -> x.memory(a));
        Bounds.range("23 address", IndexOutOfBoundsException.class, a -> a >= 0 && a < 1024,
                RecordLayouts::new, (x, a) -> x.poke(a, 1));
        Bounds.range("23 address before the value", IndexOutOfBoundsException.class, a -> a >= 0 && a < 1024,
                RecordLayouts::new, (x, a) -> x.poke(a, a >= 0 && a < 1024 ? 0 : 256));
        for (int address : new int[] {0, 1, 511, 512, 1022, 1023}) {
            RecordLayouts x = new RecordLayouts();
            Check.due("23 poke at " + address, x.poke(address, 255), 0);
            Check.due("22 byte " + address, x.memory(address), 255);
            Check.due("22 the byte before", address == 0 ? 0 : x.memory(address - 1), 0);
            Check.due("22 the byte behind", address == 1023 ? 0 : x.memory(address + 1), 0);
        }
    }

    /** "the byte, 0 to 255" */
    private static void valueOfAByte() {
        Bounds.range("23 value", IllegalArgumentException.class, v -> v >= 0 && v <= 255,
                RecordLayouts::new, (x, v) -> x.poke(0, v));
        RecordLayouts x = new RecordLayouts();
        for (int value = 0; value <= 255; value++) {
            Check.due("23 the byte before", x.poke(7, value), Math.max(value - 1, 0));
        }
        Check.due("22 the greatest byte", x.memory(7), 255);
    }

    // ---- tables

    /** "There are at most 3 tables, numbered 0 to 2" */
    private static void atMostThreeTables() {
        RecordLayouts x = Bounds.records(8, "a:b;");
        for (int i = 0; i < 3; i++) {
            Check.due("17 set of tables", x.tables(), (1 << i) - 1);
            Check.due("15 number", x.newTable(0, 1, 0, 0), i);
        }
        Check.due("17 set of three tables", x.tables(), 7);
        Check.state("15 a fourth table", x, () -> x.newTable(0, 1, 0, 0));
        Check.due("24 though there is room", x.freeBytes(true), 1024 - 40 - 8);
        x.undo();
        Check.due("15 the third one again", x.newTable(0, 1, 0, 0), 2);
    }

    /** "a new table gets the lowest number that is free" */
    private static void lowestNumberThatIsFree() {
        for (int set = 0; set < 8; set++) {
            RecordLayouts x = Bounds.records(8, "a:b;");
            for (int i = 0; i < 3; i++) {
                x.newTable(0, 1, 0, 0);
            }
            int lowest = 3;
            for (int i = 2; i >= 0; i--) {
                if ((set >> i & 1) == 0) {
                    x.removeTable(i);
                    lowest = i;
                }
            }
            Check.due("17 set of tables", x.tables(), set);
            Check.due("15 number beside " + set, Check.answer(() -> x.newTable(0, 2, 0, 0)),
                    lowest == 3 ? (Object) "throws.IllegalStateException" : (Object) (long) lowest);
            Check.due("17 set of tables afterwards", x.tables(), lowest == 3 ? 7 : set | 1 << lowest);
        }
    }

    /** "1 to 12 rows, a layout, a byte order", "layout: 0 to 8", "0 or 1" */
    private static void rowsLayoutAndOrder() {
        Bounds.range("15 rows", IllegalArgumentException.class, n -> n >= 1 && n <= 12,
                () -> Bounds.records(8, "a:b;"), (x, n) -> x.newTable(0, n, 0, 0));
        Bounds.range("15 layout", IllegalArgumentException.class, n -> n >= 0 && n <= 8,
                () -> Bounds.records(8, "a:b;"), (x, n) -> x.newTable(0, 1, n, 0));
        Bounds.range("15 order", IllegalArgumentException.class, n -> n >= 0 && n <= 1,
                () -> Bounds.records(8, "a:b;"), (x, n) -> x.newTable(0, 1, 0, n));
        for (int rows = 1; rows <= 12; rows++) {
            for (int layout = 0; layout <= 8; layout++) {
                for (int order = 0; order <= 1; order++) {
                    RecordLayouts x = Bounds.records(8, "a:b;");
                    x.newTable(0, rows, layout, order);
                    int bytes = layout < 2 ? Bounds.up(rows, 8) : Bounds.up(rows, layout) / layout * 8;
                    int[] want = {0, rows, layout, order, 0, bytes};
                    for (int what = 0; what < 6; what++) {
                        Check.due("18 what " + what, x.tableInfo(0, what), want[what]);
                    }
                }
            }
        }
    }

    /** "A table has a record with at least one field" */
    private static void recordWithAtLeastOneField() {
        RecordLayouts x = Bounds.records(8, "-", "a:b;", "-");
        Check.state("15 a record without fields", x, () -> x.newTable(0, 1, 0, 0));
        Check.state("15 another one", x, () -> x.newTable(2, 12, 8, 1));
        x.addField(2, 'a', 21, 1);
        Check.due("15 now with one field", x.newTable(2, 12, 8, 1), 0);
        Check.due("18 its record", x.tableInfo(0, 0), 2);
    }

    /** "The table has rows * size bytes, rounded up to a multiple of 8." */
    private static void rowsAreRoundedUpToEight() {
        for (int size = 1; size <= 16; size++) {
            for (int rows = 1; rows <= 12; rows++) {
                RecordLayouts x = Bounds.records(1, "-");
                for (int i = 0; i < size; i += 4) {
                    x.addField(0, 'a' + i, 1, Math.min(4, size - i));
                }
                x.newTable(0, rows, 0, 0);
                String what = rows + " rows of " + size + " bytes";
                Check.due("18 bytes, " + what, x.tableInfo(0, 5), Bounds.up(rows * size, 8));
                Check.due("19 the first leaf of the last row, " + what, x.address(0, rows - 1, 0), (rows - 1) * size);
                Check.due("19 the last leaf of the last row, " + what, x.address(0, rows - 1, size - 1),
                        rows * size - 1);
                Check.due("16 removed, " + what, x.removeTable(0), Bounds.up(rows * size, 8));
            }
        }
    }

    private static int width(int type) {
        return type > 20 ? 2 : Bounds.PLAIN_BYTES[type];
    }

    /** "A column begins at the next distance from the base that is a multiple of the number of bytes of one value." */
    private static void columnBeginsAtAMultiple() {
        int[] types = {0, 2, 5, 6, 7, 21, 36};
        for (int first : types) {
            for (int second : types) {
                for (int rows = 1; rows <= 12; rows++) {
                    RecordLayouts x = Bounds.records(1, "-");
                    x.addField(0, 'a', first, 1);
                    x.addField(0, 'b', second, 1);
                    x.newTable(0, rows, 1, 0);
                    String what = "types " + first + " and " + second + ", " + rows + " rows";
                    int start = Bounds.up(rows * width(first), width(second));
                    Check.due("19 first column, " + what, x.address(0, rows - 1, 0), (rows - 1) * width(first));
                    Check.due("19 second column, " + what, x.address(0, 0, 1), start);
                    Check.due("19 its end, " + what, x.address(0, rows - 1, 1), start + (rows - 1) * width(second));
                    Check.due("18 bytes, " + what, x.tableInfo(0, 5), Bounds.up(start + rows * width(second), 8));
                }
            }
        }
    }

    /** "The table has as many bytes as all columns, rounded up to a multiple of 8." */
    private static void columnsAreRoundedUpToEight() {
        for (int rows = 1; rows <= 12; rows++) {
            RecordLayouts x = Bounds.table("a:u8;b:u8;c:u8;", rows, 1, 0);
            Check.due("18 bytes of three columns", x.tableInfo(0, 5), Bounds.up(3 * rows, 8));
            x = Bounds.table("a:%1;b:%1;c:%1;d:b;", rows, 1, 0);
            Check.due("18 each bit field has units of its own", x.tableInfo(0, 5), Bounds.up(7 * rows, 8));
            x = Bounds.table("a:i64;", rows, 1, 0);
            Check.due("18 nothing to round", x.tableInfo(0, 5), 8 * rows);
        }
    }

    /** "the last one has room for B rows, too", "each block is laid out like a table with layout 1 and B rows" */
    private static void lastBlockHasRoomForAllRows() {
        for (int layout = 2; layout <= 8; layout++) {
            RecordLayouts one = Bounds.table("a:b;b:i32;c:%3;", Math.min(layout, 12), 1, 0);
            int block = one.tableInfo(0, 5);
            Check.due("18 a block", block, Bounds.up(Bounds.up(layout, 4) + 6 * layout, 8));
            for (int rows = 1; rows <= 12; rows++) {
                RecordLayouts x = Bounds.table("a:b;b:i32;c:%3;", rows, layout, 0);
                int blocks = (rows + layout - 1) / layout;
                Check.due("18 bytes of " + rows + " rows in blocks of " + layout, x.tableInfo(0, 5), blocks * block);
                for (int leaf = 0; leaf < 3; leaf++) {
                    for (int row = 0; row < rows; row++) {
                        Check.due("19 row " + row + " leaf " + leaf + " in blocks of " + layout,
                                x.address(0, row, leaf),
                                row / layout * block + one.address(0, row % layout, leaf));
                    }
                }
            }
        }
    }

    /** "the blocks follow one another": row B is the first one of the second block. */
    private static void rowsAtTheEdgesOfBlocks() {
        RecordLayouts x = Bounds.table("a:b;b:i64;", 12, 5, 0);
        // A block has 5 bytes, 3 between and 40.
        int[] rows = {0, 4, 5, 9, 10, 11};
        int[] first = {0, 4, 48, 52, 96, 97};
        int[] second = {8, 40, 56, 88, 104, 112};
        for (int i = 0; i < rows.length; i++) {
            Check.due("19 b of row " + rows[i], x.address(0, rows[i], 0), first[i]);
            Check.due("19 i64 of row " + rows[i], x.address(0, rows[i], 1), second[i]);
        }
        Check.due("18 three blocks", x.tableInfo(0, 5), 144);
        RecordLayouts y = Bounds.table("a:b;b:i64;", 8, 8, 0);
        Check.due("18 one block that is full", y.tableInfo(0, 5), 72);
        RecordLayouts z = Bounds.table("a:b;b:i64;", 9, 8, 0);
        Check.due("18 one row more", z.tableInfo(0, 5), 144);
        Check.due("19 that row", z.address(0, 8, 0), 72);
    }

    /** In each layout all leaves of all rows have bytes of their own within the table, but for units by rows. */
    private static void leavesDoNotMeet() {
        for (int layout = 0; layout <= 8; layout++) {
            for (int rows = 1; rows <= 12; rows++) {
                RecordLayouts x = Bounds.table("q:b;", 2, 0, 0);
                Check.record(x, 2, "a:i8;b:%3;c:%13;d:i64;e:u16[2];");
                int table = x.newTable(1, rows, layout, 1);
                int[] types = {0, 23, 33, 6, 3, 3};
                int[] owner = new int[1024];
                for (int row = 0; row < rows; row++) {
                    for (int leaf = 0; leaf < 6; leaf++) {
                        int at = x.address(table, row, leaf);
                        boolean second = layout == 0 && leaf == 2;
                        for (int i = at; i < at + width(types[leaf]); i++) {
                            Check.due("19 byte " + i + " in layout " + layout, owner[i], second ? row * 6 + 2 : 0);
                            owner[i] = row * 6 + leaf + 1;
                        }
                        Check.due("19 within the table", at >= 16
                                && at + width(types[leaf]) <= 16 + x.tableInfo(table, 5) ? 1 : 0, 1);
                    }
                }
            }
        }
    }

    // ---- room

    /** "the lowest address that is a multiple of 16 such that none of the bytes from it on belongs to a table" */
    private static void roomIsTheLowest() {
        RecordLayouts x = Bounds.records(8, "a:i64;");
        x.newTable(0, 2, 0, 0);
        x.newTable(0, 4, 0, 0);
        x.newTable(0, 2, 0, 0);
        int[] bases = {0, 16, 48};
        for (int i = 0; i < 3; i++) {
            Check.due("18 base of table " + i, x.tableInfo(i, 4), bases[i]);
        }
        x.removeTable(1);
        x.newTable(0, 4, 0, 0);
        Check.due("18 the gap is just large enough", x.tableInfo(1, 4), 16);
        x.undo();
        x.newTable(0, 5, 0, 0);
        Check.due("18 the gap is 8 bytes too small", x.tableInfo(1, 4), 64);
        x.undo();
        x.newTable(0, 1, 0, 0);
        Check.due("18 the lowest one in a gap", x.tableInfo(1, 4), 16);
        x.removeTable(0);
        x.newTable(0, 1, 0, 0);
        Check.due("18 at 0 again", x.tableInfo(0, 4), 0);
    }

    /** Behind a table of 8 or 24 bytes the next multiple of 16 is taken. */
    private static void roomAtAMultipleOfSixteen() {
        for (int rows = 1; rows <= 12; rows++) {
            RecordLayouts x = Bounds.records(8, "a:i64;");
            x.newTable(0, rows, 0, 0);
            x.newTable(0, rows, 1, 0);
            x.newTable(0, 1, 0, 0);
            int step = Bounds.up(8 * rows, 16);
            Check.due("18 base behind " + rows + " rows", x.tableInfo(1, 4), step);
            Check.due("18 base behind twice as many", x.tableInfo(2, 4), 2 * step);
        }
    }

    /** Records of 8 to 80 bytes: a to j of i64. */
    private static RecordLayouts wide() {
        return Bounds.records(8, "a:i64;", "a:i64[2];", "a:i64[4];", "a:#2;b:#2;", "a:i64[4];b:i64[4];c:i64[2];");
    }

    /** "and all of them are in the memory" */
    private static void roomUpToTheEnd() {
        RecordLayouts x = wide();
        // 12 rows of 80 bytes, then 64 bytes are left.
        x.newTable(4, 12, 0, 0);
        Check.due("24 64 bytes are left", x.freeBytes(true), 64);
        Check.state("15 72 bytes do not fit", x, () -> x.newTable(0, 9, 0, 0));
        Check.due("15 64 bytes do", x.newTable(0, 8, 0, 0), 1);
        Check.due("18 their base", x.tableInfo(1, 4), 960);
        Check.due("24 nothing is left", x.freeBytes(true), 0);
        Check.state("15 no byte is left", x, () -> x.newTable(0, 1, 0, 0));
        x.fill(1, 0, -1, 0);
        Check.due("22 the last byte", x.memory(1023), 255);
        x.undo();
        x.undo();
        x.newTable(0, 7, 0, 0);
        Check.state("15 8 bytes at the end are not at a multiple of 16", x, () -> x.newTable(0, 1, 0, 0));
        Check.due("24 they are free", x.freeBytes(false), 8);
        Check.due("24 but no room", x.freeBytes(true), 0);
        RecordLayouts y = wide();
        Check.due("15 1024 bytes", Check.answer(() -> {
            Check.record(y, 8, "a:#3;b:#3;");
            return y.newTable(5, 8, 0, 0);
        }), 0L);
        Check.due("18 all bytes", y.tableInfo(0, 5), 1024);
        Check.state("15 1152 bytes do not fit into 1024", wide(), () -> bigger(9));
        Check.due("15 1024 bytes by columns", bigger(8), 0);
    }

    /** Makes a table with so many rows of 128 bytes by columns in a new object. */
    private static int bigger(int rows) {
        RecordLayouts x = Bounds.records(8, "a:i64[4];b:i64[4];", "a:#0[2];");
        return x.newTable(1, rows, 1, 0);
    }

    /** A gap that is one step too small is passed over, and one that is just large enough is taken. */
    private static void roomBetweenTables() {
        for (int gap = 1; gap <= 12; gap++) {
            for (int rows = 1; rows <= 12; rows++) {
                RecordLayouts x = Bounds.records(8, "a:i64[2];");
                x.newTable(0, gap, 0, 0);
                x.newTable(0, 1, 0, 0);
                x.removeTable(0);
                x.newTable(0, rows, 0, 0);
                Check.due("18 base of " + rows + " beside a gap of " + gap, x.tableInfo(0, 4),
                        rows <= gap ? 0 : 16 * (gap + 1));
                Check.due("24 free bytes", x.freeBytes(false), 1024 - 16 - 16 * rows);
                Check.due("24 largest room", x.freeBytes(true),
                        1024 - 16 * (gap + 1) - (rows <= gap ? 0 : 16 * rows));
            }
        }
    }

    /** "or there is no room" */
    private static void noRoom() {
        RecordLayouts x = wide();
        x.newTable(4, 6, 0, 0);
        x.newTable(0, 1, 0, 0);
        x.newTable(4, 6, 0, 0);
        // 480 bytes from 0, 8 from 480, 480 from 496, and 48 from 976.
        Check.due("18 base", x.tableInfo(2, 4), 496);
        x.removeTable(1);
        Check.due("24 16 and 48 bytes are free", x.freeBytes(false), 64);
        Check.state("15 56 bytes", x, () -> x.newTable(0, 7, 0, 0));
        Check.state("15 64 bytes, as many as are free", x, () -> x.newTable(0, 8, 0, 0));
        Check.due("15 48 bytes", x.newTable(0, 6, 0, 0), 1);
        Check.due("18 at 976", x.tableInfo(1, 4), 976);
        Check.state("15 by blocks of 8 a record of 8 bytes needs 64", wide(), () -> {
            RecordLayouts y = wide();
            y.newTable(4, 12, 0, 0);
            y.newTable(0, 1, 0, 0);
            return y.newTable(0, 1, 8, 0);
        });
    }

    /** "When a table is created, all its bytes become 0." */
    private static void createdWithZeros() {
        for (int rows = 1; rows <= 12; rows++) {
            for (int layout = 0; layout <= 8; layout++) {
                RecordLayouts x = Bounds.records(8, "a:b;b:%3;");
                int bytes = layout < 2 ? 0 : Bounds.up(Bounds.up(layout, 2) + 2 * layout, 8);
                bytes = layout == 0 ? Bounds.up(4 * rows, 8) : layout == 1
                        ? Bounds.up(Bounds.up(rows, 2) + 2 * rows, 8) : (rows + layout - 1) / layout * bytes;
                Bounds.paint(x, 0, bytes + 2, 0xA5);
                x.newTable(0, rows, layout, 0);
                Check.due("18 bytes", x.tableInfo(0, 5), bytes);
                Check.due("15 zeros and then as before", Check.bytes(x, 0, bytes + 2), "00".repeat(bytes) + "a5a5");
                Check.due("33 all values are 0", x.sum(0, 0) + x.sum(0, 1), 0);
            }
        }
        RecordLayouts x = Bounds.records(8, "a:i64;");
        Bounds.paint(x, 0, 64, 0x5A);
        x.newTable(0, 1, 0, 0);
        x.newTable(0, 3, 0, 0);
        Check.due("15 the gap between stays", Check.bytes(x, 0, 64),
                "00".repeat(8) + "5a".repeat(8) + "00".repeat(24) + "5a".repeat(24));
    }

    /** "When a table is removed, its bytes stay as they are." */
    private static void removedBytesStay() {
        for (int layout = 0; layout <= 8; layout++) {
            RecordLayouts x = Bounds.table("a:b;b:u32;", 3, layout, 0);
            int bytes = x.tableInfo(0, 5);
            Bounds.paint(x, 0, bytes + 1, 0xC3);
            Check.due("16 its bytes", x.removeTable(0), bytes);
            Check.due("16 they stay", Check.bytes(x, 0, bytes + 1), "c3".repeat(bytes + 1));
            Check.due("24 they are free", x.freeBytes(false), 1024);
            Check.due("24 and room", x.freeBytes(true), 1024);
        }
    }

    /** Tables 0 and 2 of three, which differ in all that a table has. */
    private static RecordLayouts three() {
        RecordLayouts x = Bounds.records(8, "a:i32;b:i8;", "a:%9;b:i64;c:b;", "a:i8;b:%5;");
        x.newTable(0, 5, 0, 0);
        x.newTable(1, 12, 3, 1);
        x.newTable(2, 7, 1, 1);
        for (int table = 0; table < 3; table++) {
            x.fill(table, 0, 100 * table + 3, -1);
            x.fill(table, 1, 7, 1);
        }
        return x;
    }

    /** What is asked of a table does not depend on the table that was asked before it. */
    private static void eachTableForItself() {
        Bounds.CallWith[] calls = {(x, t) -> x.tableInfo(t, 5), (x, t) -> x.address(t, 4, 1), (x, t) -> x.get(t, 4, 1),
            (x, t) -> x.set(t, 4, 1, -1), (x, t) -> x.convert(t, 2, 0), (x, t) -> x.migrate(t, 1, 2),
            (x, t) -> x.sort(t, 0, false), (x, t) -> x.fill(t, 1, -5, 3), (x, t) -> x.copyRow(t, 0, 4),
            (x, t) -> x.count(t, 0, 2, 0), (x, t) -> x.findRow(t, 0, 100 * t, 0), (x, t) -> x.sum(t, 1),
            (x, t) -> x.lines(t, 3, 0, 4, 16), (x, t) -> x.runs(t, 2, 0, 4), (x, t) -> x.bestLayout(t, 2, 16),
            (x, t) -> x.removeTable(t), (x, t) -> x.compact()};
        for (int i = 0; i < calls.length; i++) {
            for (int asked = 0; asked < 3; asked++) {
                int table = asked;
                Bounds.CallWith call = calls[i];
                RecordLayouts x = three();
                x.get(table, 0, 0);
                Object want = Check.answer(() -> call.of(x, table));
                Check.due("call " + i + " is refused", want instanceof String ? 1 : 0, 0);
                for (int other = 0; other < 3; other++) {
                    RecordLayouts y = three();
                    y.get(other, 0, 0);
                    y.bestLayout(other, 1, 64);
                    Check.due("call " + i + " of table " + asked + " after " + other,
                            Check.answer(() -> call.of(y, table)),
                            want);
                    Check.due("38 digest after call " + i, y.digest(), x.digest());
                }
            }
        }
    }

    // ---- numbers that are out of range

    /** "Throws IndexOutOfBoundsException if there is no such table": tables 0 and 2 of 0 to 2. */
    private static void numbersOfTables() {
        Bounds.CallWith[] calls = {(x, t) -> x.removeTable(t), (x, t) -> x.tableInfo(t, 0),
                (x, t) -> x.address(t, 0, 0),
            (x, t) -> x.get(t, 0, 0), (x, t) -> x.set(t, 0, 0, 1), (x, t) -> x.convert(t, 0, 0),
            (x, t) -> x.migrate(t, 0, 0), (x, t) -> x.sort(t, 0, false), (x, t) -> x.fill(t, 0, 1, 1),
            (x, t) -> x.copyRow(t, 0, 0), (x, t) -> x.count(t, 0, 0, 0), (x, t) -> x.findRow(t, 0, 0, 0),
            (x, t) -> x.sum(t, 0), (x, t) -> x.lines(t, 1, 0, 0, 16), (x, t) -> x.runs(t, 1, 0, 0),
            (x, t) -> x.bestLayout(t, 1, 16)};
        for (int i = 0; i < calls.length; i++) {
            Bounds.range(i + " table without tables", IndexOutOfBoundsException.class, t -> false,
                    () -> Bounds.records(8, "a:b;"), calls[i]);
            Bounds.range(i + " table", IndexOutOfBoundsException.class, t -> t == 0 || t == 2, () -> {
                RecordLayouts x = Bounds.table("a:b;", 1, 0, 0);
                x.newTable(0, 1, 0, 0);
                x.newTable(0, 1, 0, 0);
                x.removeTable(1);
                return x;
            }, calls[i]);
            Bounds.range(i + " table of three", IndexOutOfBoundsException.class, t -> t >= 0 && t <= 2, () -> {
                RecordLayouts x = Bounds.table("a:b;", 1, 0, 0);
                x.newTable(0, 1, 0, 0);
                x.newTable(0, 1, 0, 0);
                return x;
            }, calls[i]);
        }
    }

    /** "... or row" */
    private static void numbersOfRows() {
        Bounds.CallWith[] calls = {(x, r) -> x.address(0, r, 0), (x, r) -> x.get(0, r, 0), (x, r) -> x.set(0, r, 0, 1),
            (x, r) -> x.copyRow(0, r, 0), (x, r) -> x.copyRow(0, 0, r), (x, r) -> x.findRow(0, 0, 0, r),
            (x, r) -> x.lines(0, 1, r, 0 + rowsOf(x) - 1, 16), (x, r) -> x.lines(0, 1, 0, r, 16),
            (x, r) -> x.runs(0, 1, r, rowsOf(x) - 1), (x, r) -> x.runs(0, 1, 0, r)};
        for (int rows : new int[] {1, 5, 12}) {
            for (int layout : new int[] {0, 1, 8}) {
                for (int i = 0; i < calls.length; i++) {
                    Bounds.range(i + " row of " + rows, IndexOutOfBoundsException.class, r -> r >= 0 && r < rows,
                            () -> Bounds.table("a:b;", rows, layout, 0), calls[i]);
                }
            }
        }
    }

    private static int rowsOf(RecordLayouts x) {
        return x.tableInfo(0, 1);
    }

    /** "... or leaf" */
    private static void numbersOfLeaves() {
        Bounds.CallWith[] calls = {(x, k) -> x.address(0, 0, k), (x, k) -> x.get(0, 0, k), (x, k) -> x.set(0, 0, k, 1),
            (x, k) -> x.sort(0, k, true), (x, k) -> x.fill(0, k, 1, 1), (x, k) -> x.count(0, k, 0, 0),
            (x, k) -> x.findRow(0, k, 0, 0), (x, k) -> x.sum(0, k)};
        String[] definitions = {"a:b;", "a:%3;b:i8[3];", "a:b[4];b:b[4];c:b[4];d:b[4];e:b[4];f:b[4];g:b[4];h:b[4];"};
        int[] leaves = {1, 4, 32};
        for (int d = 0; d < definitions.length; d++) {
            String definition = definitions[d];
            int many = leaves[d];
            for (int i = 0; i < calls.length; i++) {
                Bounds.range(i + " leaf of " + many, IndexOutOfBoundsException.class, k -> k >= 0 && k < many,
                        () -> Bounds.table(definition, 2, 1, 0), calls[i]);
            }
        }
        for (int i = 0; i < calls.length; i++) {
            Bounds.range(i + " leaf of 40", IndexOutOfBoundsException.class, k -> k >= 0 && k < 40, () -> {
                RecordLayouts x = Bounds.records(8, "a:b[4];b:%5;", "a:#0[4];b:#0[4];");
                x.newTable(1, 2, 0, 0);
                return x;
            }, calls[i]);
        }
    }

    /** "Throws IllegalArgumentException if what is out of range" */
    private static void numbersOfWhat() {
        Bounds.range("18 what", IllegalArgumentException.class, w -> w >= 0 && w <= 5,
                () -> Bounds.table("a:b;", 1, 0, 0), (x, w) -> x.tableInfo(0, w));
    }

    // ---- what is written and read

    private static void written(int type, long value, long read) {
        for (int order = 0; order <= 1; order++) {
            for (int layout = 0; layout <= 2; layout++) {
                RecordLayouts x = Bounds.records(8, "-");
                x.addField(0, 'a', type, 1);
                x.newTable(0, 3, layout, order);
                x.set(0, 1, 0, value);
                Check.due("20 type " + type + " value " + value, x.get(0, 1, 0), read);
                Check.due("20 the row before", x.get(0, 0, 0), 0);
                Check.due("20 the row behind", x.get(0, 2, 0), 0);
                Check.due("21 the value before", x.set(0, 1, 0, 0), read);
                Check.due("20 0 again", x.get(0, 1, 0), 0);
            }
        }
    }

    /** "the lowest bits of v, as many as the type has, are stored", "signed (two's complement)", "unsigned" */
    private static void lowestBitsAreStored() {
        int[] bits = {8, 8, 16, 16, 32, 32};
        for (int type = 0; type <= 5; type++) {
            long one = 1L << bits[type];
            boolean signed = type % 2 == 0;
            written(type, 0, 0);
            written(type, 1, 1);
            written(type, one / 2 - 1, one / 2 - 1);
            written(type, one / 2, signed ? -one / 2 : one / 2);
            written(type, one - 1, signed ? -1 : one - 1);
            written(type, one, 0);
            written(type, one + 1, 1);
            written(type, -1, signed ? -1 : one - 1);
            written(type, -one / 2, signed ? -one / 2 : one / 2);
            written(type, -one / 2 - 1, one / 2 - 1);
            written(type, -one, 0);
            written(type, Long.MAX_VALUE, signed ? -1 : one - 1);
            written(type, Long.MIN_VALUE, 0);
        }
        for (long value : new long[] {0, 1, -1, Integer.MAX_VALUE, 1L << 31, 1L << 32, -1L << 31, -1L << 32, 1L << 62,
            Long.MAX_VALUE, Long.MIN_VALUE, Long.MIN_VALUE + 1}) {
            written(6, value, value);
            written(7, value, value == 0 ? 0 : 1);
        }
        for (long value : new long[] {2, 256, 65536, -256}) {
            written(7, value, 1);
        }
    }

    private static void bitFieldsOfAllWidths() {
        for (int width = 1; width <= 16; width++) {
            long one = 1L << width;
            for (long value : new long[] {0, 1, one - 1, one, one + 1, -1, -one, one / 2, Long.MAX_VALUE,
                    Long.MIN_VALUE}) {
                written(20 + width, value, Math.floorMod(value, one));
            }
        }
    }

    /** "for b, 1 is stored if v is not 0, otherwise 0", "0 if its byte is 0, otherwise 1" */
    private static void byteOfABoolean() {
        for (int b = 0; b <= 255; b++) {
            RecordLayouts x = Bounds.table("a:i8;b:b;", 2, 0, 0);
            x.poke(3, b);
            Check.due("20 b with the byte " + b, x.get(0, 1, 1), b == 0 ? 0 : 1);
            Check.due("33 its sum", x.sum(0, 1), b == 0 ? 0 : 1);
            Check.due("22 reading it leaves the byte", x.memory(3), b);
            Check.due("21 b with the byte " + b, x.set(0, 1, 1, 0x100L * b), b == 0 ? 0 : 1);
            Check.due("22 what is stored", x.memory(3), b == 0 ? 0 : 1);
        }
    }

    /** "For a bit field the other bits of its unit stay." */
    private static void otherBitsStay() {
        for (int order = 0; order <= 1; order++) {
            for (int low = 0; low <= 15; low++) {
                for (int width = 1; width <= 16 - low; width++) {
                    RecordLayouts x = Bounds.records(8, "-");
                    if (low > 0) {
                        x.addField(0, 'a', 20 + low, 1);
                    }
                    x.addField(0, 'b', 20 + width, 1);
                    x.newTable(0, 2, 0, order);
                    int leaf = low > 0 ? 1 : 0;
                    int mask = (1 << width) - 1 << low;
                    for (int unit : new int[] {0, 0xFFFF, 0xA5C3}) {
                        x.poke(2 + order, unit & 0xFF);
                        x.poke(3 - order, unit >> 8);
                        String what = width + " bits from " + low + " of " + unit + ", order " + order;
                        Check.due("20 " + what, x.get(0, 1, leaf), (unit & mask) >> low);
                        Check.due("21 " + what, x.set(0, 1, leaf, ~(unit >> low)), (unit & mask) >> low);
                        int now = x.memory(2 + order) | x.memory(3 - order) << 8;
                        Check.due("21 the unit afterwards, " + what, now, unit ^ mask);
                        Check.due("22 the unit before it", x.memory(0) + x.memory(1), 0);
                    }
                }
            }
        }
    }

    /** A leaf is written within its own bytes. */
    private static void otherBytesStay() {
        for (int type = 0; type <= 36; type = type == 7 ? 21 : type + 1) {
            for (int layout = 0; layout <= 2; layout++) {
                RecordLayouts x = Bounds.records(1, "a:i8;", "-");
                x.addField(1, 'a', 7, 1);
                x.addField(1, 'b', type, 1);
                x.addField(1, 'c', 7, 1);
                x.newTable(1, 3, layout, 0);
                int bytes = x.tableInfo(0, 5);
                Bounds.paint(x, 0, bytes, 0xDB);
                x.set(0, 1, 1, 0x0101010101010101L);
                int at = x.address(0, 1, 1);
                int length = type > 20 ? 2 : Bounds.PLAIN_BYTES[type];
                for (int i = 0; i < bytes; i++) {
                    if (i < at || i >= at + length) {
                        Check.due("21 byte " + i + " with type " + type + " layout " + layout, x.memory(i), 0xDB);
                    }
                }
            }
        }
    }

    /** "0 the lowest byte of a value or unit comes first, 1 the highest one" */
    private static void byteOrders() {
        int[] types = {2, 3, 4, 5, 6, 36};
        for (int type : types) {
            int bytes = type == 36 ? 2 : Bounds.PLAIN_BYTES[type];
            for (int layout = 0; layout <= 8; layout++) {
                for (int order = 0; order <= 1; order++) {
                    RecordLayouts x = Bounds.records(8, "-");
                    x.addField(0, 'a', type, 1);
                    x.newTable(0, 2, layout, order);
                    x.set(0, 1, 0, 0x8877665544332211L);
                    int at = x.address(0, 1, 0);
                    for (int i = 0; i < bytes; i++) {
                        int place = order == 0 ? at + i : at + bytes - 1 - i;
                        Check.due("21 byte " + i + " of type " + type + " order " + order, x.memory(place),
                                0x11 * (i + 1));
                    }
                    for (int i = 0; i < bytes; i++) {
                        x.poke(at + i, i == (order == 0 ? bytes - 1 : 0) ? 0x7F : 0);
                    }
                    Check.due("20 the highest byte", x.get(0, 1, 0), 0x7FL << 8 * (bytes - 1));
                }
            }
        }
    }

    // ---- free bytes

    /** "true for the greatest number of bytes for which there is room, false for the number of all bytes" */
    private static void freeOfNoneAndAll() {
        RecordLayouts x = new RecordLayouts();
        Check.due("24 without tables", x.freeBytes(false), 1024);
        Check.due("24 room without tables", x.freeBytes(true), 1024);
        x = wide();
        Check.record(x, 8, "a:#3;b:#3;");
        x.newTable(5, 8, 0, 0);
        Check.due("24 one table has all", x.freeBytes(false), 0);
        Check.due("24 no room", x.freeBytes(true), 0);
        x.undo();
        Check.due("24 all again", x.freeBytes(true), 1024);
        x.newTable(5, 7, 0, 0);
        x.newTable(3, 2, 0, 0);
        Check.due("24 two tables have all", x.freeBytes(false), 0);
        Check.due("24 no room", x.freeBytes(true), 0);
        x.removeTable(0);
        Check.due("24 before the second one", x.freeBytes(true), 896);
    }

    /** Room begins at a multiple of 16: what lies before it is free, but no part of the room. */
    private static void largestFree() {
        for (int rows = 1; rows <= 12; rows++) {
            RecordLayouts x = Bounds.records(8, "a:i64;");
            x.newTable(0, rows, 0, 0);
            Check.due("24 room behind " + rows, x.freeBytes(true), 1024 - Bounds.up(8 * rows, 16));
            Check.due("24 free behind " + rows, x.freeBytes(false), 1024 - 8 * rows);
        }
        // 56 bytes and a gap of 8, 960 bytes behind them: the gap before address 64 is no room.
        RecordLayouts x = wide();
        x.newTable(0, 7, 0, 0);
        x.newTable(4, 12, 0, 0);
        Check.due("24 the gap of 8 bytes", x.freeBytes(false), 8);
        Check.due("24 no room", x.freeBytes(true), 0);
        x.removeTable(0);
        Check.due("24 64 bytes before the other one", x.freeBytes(true), 64);
        Check.due("15 as many fit", x.newTable(0, 8, 0, 0), 0);
    }
}
