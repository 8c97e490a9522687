/** One test for each sentence of promises 25 to 30 that names a boundary case. */
public final class BoundsMovesTest {
    public static void main(String[] args) {
        layoutAndOrderOfConvert();
        convertToTheSame();
        convertFindsRoomBesideItsOldPlace();
        convertIntoTheLastRoom();
        convertWithoutRoom();
        convertClearsAllItsBytes();
        convertLeavesTheOldBytes();
        convertKeepsValuesAtTheEdges();
        layoutOfMigrate();
        migrateToARecordWithoutFields();
        migrateWithoutRoom();
        migrateWithoutAPathInCommon();
        migrateToTheSameRecord();
        migrateComparesWholePaths();
        migrateFromALeafThatWasUndone();
        migrateBetweenAllTypes();
        migrateKeepsTheByteOrder();
        migrateClearsAllItsBytes();
        compactNothing();
        compactTheFirstOne();
        compactBehindEachSize();
        compactOverItself();
        compactByBases();
        compactLeavesTheRest();
        compactCountsOtherBases();
        sortOneRow();
        sortEqualRows();
        sortTwelveRows();
        sortBySignedAndUnsigned();
        sortByABoolean();
        sortByABitField();
        sortWritesLeavesOnly();
        fillOverflows();
        fillReturnsTheRows();
        copyRowToItself();
        copyRowCountsValues();
        copyRowWritesLeavesOnly();
        Check.finish();
    }

    // ---- convert

    /** "layout: 0 to 8", "order: 0 or 1" */
    private static void layoutAndOrderOfConvert() {
        Bounds.range("25 layout", IllegalArgumentException.class, n -> n >= 0 && n <= 8,
                () -> Bounds.table("a:b;", 3, 1, 0), (x, n) -> x.convert(0, n, 0));
        Bounds.range("25 order", IllegalArgumentException.class, n -> n >= 0 && n <= 1,
                () -> Bounds.table("a:b;", 3, 1, 0), (x, n) -> x.convert(0, 1, n));
    }

    /** A table is moved even if layout and order are those that it has, and then a state is saved, too. */
    private static void convertToTheSame() {
        for (int layout = 0; layout <= 8; layout++) {
            for (int order = 0; order <= 1; order++) {
                RecordLayouts x = Bounds.table("a:u16;b:%5;", 3, layout, order);
                x.fill(0, 0, 258, 258);
                x.fill(0, 1, 7, 7);
                int bytes = x.tableInfo(0, 5);
                Check.due("25 new base", x.convert(0, layout, order), Bounds.up(bytes, 16));
                Check.due("25 back", x.convert(0, layout, order), 0);
                Check.due("25 and again", x.convert(0, layout, order), Bounds.up(bytes, 16));
                int[] want = {0, 3, layout, order, Bounds.up(bytes, 16), bytes};
                for (int what = 0; what <= 5; what++) {
                    Check.due("18 what " + what, x.tableInfo(0, what), want[what]);
                }
                Check.due("25 values", x.sum(0, 0), 6 * 258);
                Check.due("25 bits", x.sum(0, 1), 42);
                Check.due("25 undoable", x.undo(), 3);
                Check.due("25 undone", x.tableInfo(0, 4), 0);
            }
        }
    }

    /** "room for it is found while it is still at its old place" */
    private static void convertFindsRoomBesideItsOldPlace() {
        RecordLayouts x = Bounds.records(8, "a:i64;");
        x.newTable(0, 2, 0, 0);
        x.newTable(0, 2, 0, 0);
        x.newTable(0, 12, 0, 0);
        x.removeTable(0);
        Check.due("25 into the gap before it that is as large", x.convert(1, 1, 1), 0);
        Check.due("25 back behind itself", x.convert(1, 0, 0), 16);
        Check.due("25 the large one behind itself", x.convert(2, 1, 0), 128);
        Check.due("25 now 96 bytes are free where it was", x.convert(2, 1, 0), 32);
        x.removeTable(1);
        Check.due("25 32 bytes before it are not enough", x.convert(2, 1, 0), 128);
        Check.due("25 and 128 are", x.convert(2, 1, 0), 0);
    }

    /** A table of 512 bytes beside itself, up to the last byte of the memory. */
    private static void convertIntoTheLastRoom() {
        RecordLayouts x = Bounds.records(8, "a:i64[4];b:i64[4];", "-");
        x.newTable(0, 8, 0, 0);
        Check.due("18 512 bytes", x.tableInfo(0, 5), 512);
        for (int leaf = 0; leaf < 8; leaf++) {
            x.fill(0, leaf, leaf * 100, 1);
        }
        Check.due("25 to the upper half", x.convert(0, 1, 1), 512);
        Check.due("22 the last byte", x.memory(1023), (707 & 0xFF));
        Check.due("25 to the lower half", x.convert(0, 8, 0), 0);
        for (int leaf = 0; leaf < 8; leaf++) {
            Check.due("33 leaf " + leaf, x.sum(0, leaf), 8 * 100 * leaf + 28);
        }
    }

    /** "Throws IllegalStateException if there is no room" */
    private static void convertWithoutRoom() {
        RecordLayouts x = Bounds.records(8, "a:i64[4];b:i64[4];c:i8;", "a:b;");
        x.newTable(0, 7, 0, 0);
        Check.due("18 504 bytes", x.tableInfo(0, 5), 504);
        for (int layout = 0; layout <= 8; layout++) {
            // By rows 504 bytes, by columns 456, in blocks of 4 2 * 264, in blocks of 8 520.
            int[] bytes = {504, 456, 544, 600, 528, 656, 784, 456, 520};
            int asked = layout;
            if (bytes[layout] <= 512) {
                Check.due("25 layout " + layout, x.convert(0, layout, 0), 512);
                Check.due("18 bytes", x.tableInfo(0, 5), bytes[layout]);
                x.undo();
            } else {
                Check.state("25 layout " + layout, x, () -> x.convert(0, asked, 0));
                Check.argument("25 layout " + layout + ", the argument first", x, () -> x.convert(0, asked, 2));
            }
        }
        x.newTable(1, 1, 0, 0);
        Check.due("18 at 512", x.tableInfo(1, 4), 512);
        Check.state("25 now 496 bytes are left", x, () -> x.convert(0, 0, 0));
        Check.due("25 and 456 are enough", x.convert(0, 1, 0), 528);
    }

    /** "there all its bytes become 0, and then all leaves of all rows are written" */
    private static void convertClearsAllItsBytes() {
        for (int layout = 0; layout <= 8; layout++) {
            RecordLayouts x = Bounds.table("a:u8;b:%3;c:u32;", 3, 0, 0);
            int room = layout == 1 ? 3 : layout;
            int block = Bounds.up(Bounds.up(Bounds.up(room, 2) + room * 2, 4) + room * 4, 8);
            int bytes = layout == 0 ? 24 : layout == 2 ? 2 * block : block;
            Bounds.paint(x, 32, 32 + bytes + 1, 0xFF);
            for (int row = 0; row < 3; row++) {
                x.set(0, row, 0, row + 1);
                x.set(0, row, 1, row + 1);
                x.set(0, row, 2, row + 1);
            }
            Check.due("25 base", x.convert(0, layout, 0), 32);
            Check.due("18 bytes", x.tableInfo(0, 5), bytes);
            int[] want = new int[bytes];
            for (int row = 0; row < 3; row++) {
                for (int leaf = 0; leaf < 3; leaf++) {
                    want[x.address(0, row, leaf) - 32] = row + 1;
                }
            }
            for (int i = 0; i < bytes; i++) {
                Check.due("22 byte " + i + " in layout " + layout, x.memory(32 + i), want[i]);
            }
            Check.due("22 the byte behind", x.memory(32 + bytes), 0xFF);
        }
    }

    /** The bytes of the old place stay, padding and unused bits among them. */
    private static void convertLeavesTheOldBytes() {
        for (int from = 0; from <= 8; from++) {
            for (int to = 0; to <= 8; to++) {
                RecordLayouts x = Bounds.table("a:b;b:%3;", 5, from, 0);
                int bytes = x.tableInfo(0, 5);
                Bounds.paint(x, 0, bytes, 0x99);
                Check.due("25 base", x.convert(0, to, 1), Bounds.up(bytes, 16));
                Check.due("25 the old bytes", Check.bytes(x, 0, bytes), "99".repeat(bytes));
                Check.due("25 b of all rows", x.sum(0, 0), 5);
                Check.due("25 bits of all rows", x.sum(0, 1), 5);
            }
        }
    }

    /** The least and the greatest values of all types, from each layout and order to each. */
    private static void convertKeepsValuesAtTheEdges() {
        long[] least = {-128, 0, -32768, 0, Integer.MIN_VALUE, 0, Long.MIN_VALUE, 0, 0, 0};
        long[] greatest = {127, 255, 32767, 65535, Integer.MAX_VALUE, 0xFFFFFFFFL, Long.MAX_VALUE, 1, 7, 8191};
        for (int from = 0; from <= 8; from++) {
            for (int to = 0; to <= 8; to++) {
                RecordLayouts x = Bounds.records(8, "-");
                for (int type = 0; type <= 7; type++) {
                    x.addField(0, 'a' + type, type, 1);
                }
                x.newRecord(8);
                x.addField(1, 'r', 100, 1);
                x.addField(1, 's', 23, 1);
                x.addField(1, 't', 33, 1);
                x.newTable(1, 2, from, from % 2);
                for (int leaf = 0; leaf < 10; leaf++) {
                    x.set(0, 0, leaf, least[leaf]);
                    x.set(0, 1, leaf, greatest[leaf]);
                }
                x.convert(0, to, to % 3 == 0 ? 0 : 1);
                for (int leaf = 0; leaf < 10; leaf++) {
                    Check.due("25 the least value of leaf " + leaf, x.get(0, 0, leaf), least[leaf]);
                    Check.due("25 the greatest value of leaf " + leaf, x.get(0, 1, leaf), greatest[leaf]);
                }
            }
        }
    }

    // ---- migrate

    private static RecordLayouts two(String old, String fresh, int rows, int layout, int order) {
        RecordLayouts x = Bounds.records(8, old, fresh);
        x.newTable(0, rows, layout, order);
        return x;
    }

    /** "layout: 0 to 8", "if there is no such table or record" */
    private static void layoutOfMigrate() {
        Bounds.range("26 layout", IllegalArgumentException.class, n -> n >= 0 && n <= 8,
                () -> two("a:b;", "a:i8;", 3, 1, 0), (x, n) -> x.migrate(0, 1, n));
        Bounds.range("26 record", IndexOutOfBoundsException.class, r -> r >= 0 && r < 2,
                () -> two("a:b;", "a:i8;", 3, 1, 0), (x, r) -> x.migrate(0, r, 0));
        Bounds.range("26 record, though the layout is wrong, too", IndexOutOfBoundsException.class,
                r -> r >= 0 && r < 2, () -> two("a:b;", "a:i8;", 3, 1, 0),
                (x, r) -> x.migrate(0, r, r == 0 || r == 1 ? 0 : 9));
    }

    /** "Throws IllegalStateException if the record has no fields" */
    private static void migrateToARecordWithoutFields() {
        RecordLayouts x = Bounds.records(8, "a:b;", "-");
        x.newTable(0, 1, 0, 0);
        for (int layout = 0; layout <= 8; layout++) {
            int asked = layout;
            Check.state("26 no fields, layout " + layout, x, () -> x.migrate(0, 1, asked));
        }
        Check.argument("26 the argument first", x, () -> x.migrate(0, 1, -1));
        x.addField(1, 'z', 36, 1);
        Check.due("26 now with one field", x.migrate(0, 1, 0), 0);
        Check.due("18 its record", x.tableInfo(0, 0), 1);
    }

    /** "... or there is no room" */
    private static void migrateWithoutRoom() {
        RecordLayouts x = Bounds.records(8, "a:i64[4];b:i64[4];", "a:i64[4];b:i64[4];c:i8;",
                "a:i64[4];b:i64[4];c:i64;");
        x.newTable(0, 8, 0, 0);
        Check.state("26 576 bytes", x, () -> x.migrate(0, 1, 0));
        Check.state("26 520 bytes by columns", x, () -> x.migrate(0, 1, 1));
        Check.state("26 576 bytes by columns", x, () -> x.migrate(0, 2, 1));
        Check.argument("26 no room, but the argument first", x, () -> x.migrate(0, 2, 9));
        Check.due("26 512 bytes", x.migrate(0, 0, 1), 8);
        Check.due("18 in the upper half", x.tableInfo(0, 4), 512);
        x.removeTable(0);
        x.newTable(0, 7, 0, 0);
        Check.due("26 7 rows of 72 bytes", x.migrate(0, 2, 0), 8);
        Check.due("18 504 bytes", x.tableInfo(0, 5), 504);
        Check.due("18 at 448", x.tableInfo(0, 4), 448);
    }

    /** "or stays 0 if there is none" */
    private static void migrateWithoutAPathInCommon() {
        RecordLayouts x = two("a:b;b:i8[2];", "a:i8[2];b:i8;c:i64;", 2, 0, 0);
        for (int leaf = 0; leaf < 3; leaf++) {
            x.fill(0, leaf, -1, 0);
        }
        Bounds.paint(x, 16, 80, 0x77);
        Check.due("26 no path in common", x.migrate(0, 1, 0), 0);
        for (int leaf = 0; leaf < 4; leaf++) {
            Check.due("33 leaf " + leaf + " stays 0", x.sum(0, leaf), 0);
        }
        Check.due("22 all its bytes are 0", Check.bytes(x, 16, 49), "00".repeat(32) + "77");
        Check.due("26 undoable", x.undo(), 3);
        Check.due("26 undone", x.sum(0, 1), -2);
    }

    /** "the number of leaves of the new record whose path is that of a leaf of the old one": all of them. */
    private static void migrateToTheSameRecord() {
        for (int layout = 0; layout <= 8; layout++) {
            RecordLayouts x = Bounds.records(8, "a:b[4];b:%5;", "a:#0[4];b:#0[4];");
            x.newTable(1, 3, 1, 1);
            for (int leaf = 0; leaf < 40; leaf++) {
                x.fill(0, leaf, leaf % 5 == 4 ? leaf % 32 : leaf & 1, 0);
            }
            Check.due("26 all 40 leaves", x.migrate(0, 1, layout), 40);
            for (int leaf = 0; leaf < 40; leaf++) {
                Check.due("33 leaf " + leaf, x.sum(0, leaf), 3 * (leaf % 5 == 4 ? leaf % 32 : leaf & 1));
            }
            Check.due("18 layout", x.tableInfo(0, 2), layout);
            Check.due("5 in use", x.recordInfo(1, 6), 1);
        }
    }

    /** "with the same path": an index counts, and so does the record inside. */
    private static void migrateComparesWholePaths() {
        RecordLayouts x = Bounds.records(8, "a:i8;", "a:i8[2];b:#0;c:#0[2];d:i8;e:i8[4];",
            "a:i8;b:#0[2];c:#0;d:#0;e:i8[2];", "e:i8[3];c:#0[4];b:#0;a:i8[3];d:i8[2];");
        x.newTable(1, 2, 0, 0);
        for (int leaf = 0; leaf < 10; leaf++) {
            x.fill(0, leaf, leaf + 1, 0);
        }
        // Old paths: a[0] a[1] b.a c[0].a c[1].a d e[0] e[1] e[2] e[3].
        Check.due("26 e[0] and e[1] alone", x.migrate(0, 2, 0), 2);
        long[] first = {0, 0, 0, 0, 0, 7, 8};
        for (int leaf = 0; leaf < first.length; leaf++) {
            Check.due("26 leaf " + leaf, x.get(0, 1, leaf), first[leaf]);
        }
        x.undo();
        Check.due("26 eight of them", x.migrate(0, 3, 0), 8);
        long[] second = {7, 8, 9, 4, 5, 0, 0, 3, 1, 2, 0, 0, 0};
        for (int leaf = 0; leaf < second.length; leaf++) {
            Check.due("26 leaf " + leaf, x.get(0, 1, leaf), second[leaf]);
        }
    }

    /** "that of a leaf of the old one": not of one that it had before undo, and of none behind the 40th leaf. */
    private static void migrateFromALeafThatWasUndone() {
        RecordLayouts x = Bounds.records(8, "a:b;", "z:i8;y:i8[2];a:i8;");
        x.addField(0, 'z', 0, 1);
        x.undo();
        x.newTable(0, 3, 0, 0);
        x.fill(0, 0, 1, 0);
        Check.due("26 a alone", x.migrate(0, 1, 0), 1);
        int[] want = {0, 0, 0, 3};
        for (int leaf = 0; leaf < 4; leaf++) {
            Check.due("33 leaf " + leaf, x.sum(0, leaf), want[leaf]);
        }
        RecordLayouts y = Bounds.records(8, "a:b[4];b:%5;", "a:#0[4];b:#0[4];", "z:#0;b:#0;");
        y.newTable(1, 2, 0, 0);
        Check.due("26 from 40 leaves none", y.migrate(0, 2, 0), 0);
        Check.due("26 and to 40 leaves none", y.migrate(0, 1, 0), 0);
    }

    /** A leaf gets the value that is read, and of it as many bits as it has. */
    private static void migrateBetweenAllTypes() {
        int[] types = {0, 1, 2, 3, 4, 5, 6, 7, 21, 28, 36};
        for (int from : types) {
            for (int to : types) {
                for (long value : new long[] {0, 1, -1, 127, 128, -128, 0x8000, 0x80000000L, 0x1234567890ABCDEFL}) {
                    RecordLayouts x = Bounds.records(8, "-", "-");
                    x.addField(0, 'a', from, 1);
                    x.addField(1, 'a', to, 1);
                    x.newTable(0, 1, 0, 0);
                    x.set(0, 0, 0, value);
                    long have = x.get(0, 0, 0);
                    x.newTable(1, 1, 0, 0);
                    x.set(1, 0, 0, have);
                    Check.due("26 one leaf", x.migrate(0, 1, 1), 1);
                    Check.due("26 " + value + " from type " + from + " to " + to, x.get(0, 0, 0), x.get(1, 0, 0));
                }
            }
        }
        RecordLayouts x = two("a:i8;b:u8;c:b;d:%3;", "a:i64;b:i64;c:i64;d:i64;", 1, 0, 0);
        x.fill(0, 0, -1, 0);
        x.fill(0, 1, -1, 0);
        x.poke(2, 200);
        x.fill(0, 3, -1, 0);
        x.migrate(0, 1, 0);
        long[] want = {-1, 255, 1, 7};
        for (int leaf = 0; leaf < 4; leaf++) {
            Check.due("26 widened leaf " + leaf, x.get(0, 0, leaf), want[leaf]);
        }
    }

    /** "with the same byte order" */
    private static void migrateKeepsTheByteOrder() {
        for (int order = 0; order <= 1; order++) {
            RecordLayouts x = two("a:u16;", "a:u32;", 1, 0, order);
            x.set(0, 0, 0, 0x1234);
            x.migrate(0, 1, 0);
            Check.due("18 order", x.tableInfo(0, 3), order);
            Check.due("22 bytes", Check.bytes(x, 16, 24), order == 0 ? "3412000000000000" : "0000123400000000");
            Check.due("18 rows", x.tableInfo(0, 1), 1);
        }
    }

    private static void migrateClearsAllItsBytes() {
        RecordLayouts x = two("a:u8;", "b:u8;a:u32;c:%3;", 3, 0, 0);
        x.fill(0, 0, 1, 1);
        Bounds.paint(x, 16, 64, 0xEE);
        Check.due("26 a alone", x.migrate(0, 1, 2), 1);
        // A block of 2: b 0 to 2, a 4 to 12, c 12 to 16.
        Check.due("22 bytes", Check.bytes(x, 16, 50), "00000000" + "01000000" + "02000000" + "00000000"
                + "00000000" + "03000000" + "00000000" + "00000000" + "eeee");
    }

    // ---- compact

    /** Without tables, or when none is moved, a state is saved, too. */
    private static void compactNothing() {
        RecordLayouts x = new RecordLayouts();
        Check.due("27 without tables", x.compact(), 0);
        Check.due("27 without tables", x.compact(), 0);
        Check.due("37 two states were saved", x.undo(), 1);
        RecordLayouts y = Bounds.records(8, "a:i64;");
        y.newTable(0, 1, 0, 0);
        Check.due("27 one table at 0", y.compact(), 0);
        y.newTable(0, 2, 0, 0);
        y.newTable(0, 3, 0, 0);
        Check.due("27 three tables together", y.compact(), 0);
        int[] bases = {0, 16, 32};
        for (int i = 0; i < 3; i++) {
            Check.due("18 base " + i, y.tableInfo(i, 4), bases[i]);
        }
        Check.due("37 saved", y.undo(), 3);
    }

    /** "(the first one to 0)" */
    private static void compactTheFirstOne() {
        for (int rows = 1; rows <= 12; rows++) {
            RecordLayouts x = Bounds.records(8, "a:i64;");
            x.newTable(0, rows, 0, 0);
            x.newTable(0, 12, 0, 0);
            x.fill(1, 0, 1, 1);
            x.removeTable(0);
            Check.due("27 one table moves", x.compact(), 1);
            Check.due("18 to 0", x.tableInfo(1, 4), 0);
            Check.due("33 its values", x.sum(1, 0), 78);
            Check.due("20 the last one", x.get(1, 11, 0), 12);
        }
    }

    /** "to the lowest multiple of 16 behind the bytes of the one before" */
    private static void compactBehindEachSize() {
        for (int rows = 1; rows <= 12; rows++) {
            RecordLayouts x = Bounds.records(8, "a:i64;");
            x.newTable(0, 12, 0, 0);
            x.newTable(0, rows, 0, 0);
            x.newTable(0, 3, 0, 1);
            x.fill(1, 0, -7, 1);
            x.fill(2, 0, 1000, 1);
            x.removeTable(0);
            Check.due("27 both move", x.compact(), 2);
            Check.due("18 the first one", x.tableInfo(1, 4), 0);
            Check.due("18 behind " + rows + " rows", x.tableInfo(2, 4), Bounds.up(8 * rows, 16));
            Check.due("20 the last value of the first one", x.get(1, rows - 1, 0), rows - 8);
            Check.due("33 the values of the other one", x.sum(2, 0), 3003);
            Check.due("18 its order", x.tableInfo(2, 3), 1);
        }
    }

    /** "its bytes are copied": all of them, padding among them, even over the place where it was. */
    private static void compactOverItself() {
        RecordLayouts x = Bounds.records(8, "a:b;", "a:u8[4];b:u8[3];");
        x.newTable(0, 1, 0, 0);
        x.newTable(1, 12, 0, 0);
        Check.due("18 84 bytes, rounded up", x.tableInfo(1, 5), 88);
        for (int i = 0; i < 90; i++) {
            x.poke(16 + i, i + 1);
        }
        x.removeTable(0);
        Check.due("27 by 16 bytes", x.compact(), 1);
        for (int i = 0; i < 88; i++) {
            Check.due("22 byte " + i, x.memory(i), i + 1);
        }
        for (int i = 88; i < 106; i++) {
            Check.due("22 byte " + i + " behind it stays", x.memory(i), i - 15);
        }
    }

    /** "in ascending order of their bases" */
    private static void compactByBases() {
        int[][] orders = {{0, 1, 2}, {0, 2, 1}, {1, 0, 2}, {1, 2, 0}, {2, 0, 1}, {2, 1, 0}};
        for (int[] order : orders) {
            RecordLayouts x = Bounds.records(8, "a:i64;");
            for (int i = 0; i < 3; i++) {
                x.newTable(0, i + 1, 0, 0);
                x.set(i, 0, 0, 100 + i);
            }
            // Each one in turn goes behind all others, as it is made greater.
            int base = 0;
            for (int table : order) {
                x.removeTable(table);
                x.newTable(0, 9 + table, 0, 0);
                x.set(table, 0, 0, 100 + table);
                Check.due("18 base of table " + table + " is a higher one", x.tableInfo(table, 4) > base ? 1 : 0, 1);
                base = x.tableInfo(table, 4);
            }
            Check.due("27 all three", x.compact(), 3);
            int next = 0;
            for (int table : order) {
                Check.due("18 base of table " + table, x.tableInfo(table, 4), next);
                Check.due("20 its value", x.get(table, 0, 0), 100 + table);
                next += Bounds.up(8 * (9 + table), 16);
            }
            Check.due("24 room behind them", x.freeBytes(true), 1024 - next);
        }
    }

    /** Bytes that belong to no table stay, but for those to which a table is moved. */
    private static void compactLeavesTheRest() {
        RecordLayouts x = Bounds.records(8, "a:u8;");
        x.newTable(0, 1, 0, 0);
        x.newTable(0, 1, 0, 0);
        x.newTable(0, 1, 0, 0);
        Bounds.paint(x, 0, 48, 0x11);
        Bounds.paint(x, 16, 24, 0x22);
        Bounds.paint(x, 32, 40, 0x33);
        x.removeTable(0);
        Check.due("27 both move", x.compact(), 2);
        Check.due("22 bytes", Check.bytes(x, 0, 48), "22".repeat(8) + "11".repeat(8) + "33".repeat(8) + "11".repeat(8)
                + "33".repeat(8) + "11".repeat(8));
    }

    /** "Returns the number of tables that have another base afterwards." */
    private static void compactCountsOtherBases() {
        for (int removed = 0; removed < 3; removed++) {
            RecordLayouts x = Bounds.records(8, "a:u8;");
            for (int i = 0; i < 3; i++) {
                x.newTable(0, 1, 0, 0);
            }
            x.removeTable(removed);
            Check.due("27 without table " + removed, x.compact(), 2 - removed);
            Check.due("27 again", x.compact(), 0);
            Check.due("37 saved", x.undo(), 3);
        }
    }

    // ---- sort

    private static RecordLayouts column(int type, int layout, long... values) {
        RecordLayouts x = Bounds.records(8, "-");
        x.addField(0, 'k', type, 1);
        x.addField(0, 'r', 1, 1);
        x.newTable(0, values.length, layout, layout % 2);
        for (int row = 0; row < values.length; row++) {
            x.set(0, row, 0, values[row]);
            x.set(0, row, 1, row);
        }
        return x;
    }

    private static void sorted(String what, RecordLayouts x, boolean descending, int moved, int... rows) {
        Check.due("28 " + what, x.sort(0, 0, descending), moved);
        for (int row = 0; row < rows.length; row++) {
            Check.due("28 " + what + ", row " + row, x.get(0, row, 1), rows[row]);
        }
    }

    private static void sortOneRow() {
        for (int layout = 0; layout <= 8; layout++) {
            for (int type : new int[] {0, 6, 7, 21}) {
                sorted("one row", column(type, layout, 1), false, 0, 0);
                sorted("one row, descending", column(type, layout, 1), true, 0, 0);
            }
        }
        RecordLayouts x = column(0, 0, 1);
        x.undo();
        Check.due("37 two states are left", x.undo(), 2);
        x.sort(0, 0, false);
        Check.due("37 a state is saved even then", x.undo(), 2);
    }

    /** "rows with equal values keep their order" */
    private static void sortEqualRows() {
        for (boolean descending : new boolean[] {false, true}) {
            sorted("equal rows", column(6, 0, 5, 5, 5, 5), descending, 0, 0, 1, 2, 3);
            sorted("twelve equal rows", column(4, 1, new long[12]), descending, 0, 0, 1, 2, 3, 4, 5, 6, 7, 8, 9, 10,
                    11);
        }
        sorted("pairs", column(0, 2, 2, 1, 2, 1), false, 4, 1, 3, 0, 2);
        sorted("pairs, descending", column(0, 2, 1, 2, 1, 2), true, 4, 1, 3, 0, 2);
        sorted("pairs, sorted already", column(0, 2, 1, 1, 2, 2), false, 0, 0, 1, 2, 3);
        sorted("pairs, sorted already, descending", column(0, 2, 2, 2, 1, 1), true, 0, 0, 1, 2, 3);
    }

    /** "Returns the number of rows that are at another place afterwards." */
    private static void sortTwelveRows() {
        long[] down = {11, 10, 9, 8, 7, 6, 5, 4, 3, 2, 1, 0};
        for (int layout = 0; layout <= 8; layout++) {
            sorted("twelve rows turned around", column(2, layout, down), false, 12, 11, 10, 9, 8, 7, 6, 5, 4, 3, 2, 1,
                    0);
            sorted("twelve rows as they are", column(2, layout, down), true, 0, 0, 1, 2, 3, 4, 5, 6, 7, 8, 9, 10, 11);
            sorted("the row in the middle stays", column(2, layout, 5, 4, 3, 2, 1), false, 4, 4, 3, 2, 1, 0);
            sorted("the first one goes last", column(2, layout, 9, 1, 2, 3), false, 4, 1, 2, 3, 0);
            sorted("two of four change places", column(2, layout, 1, 3, 2, 4), false, 2, 0, 2, 1, 3);
        }
    }

    private static void sortBySignedAndUnsigned() {
        for (int type = 0; type <= 6; type++) {
            long half = type == 6 ? Long.MIN_VALUE : 1L << 8 * Bounds.PLAIN_BYTES[type] - 1;
            boolean signed = type % 2 == 0;
            RecordLayouts x = column(type, 0, half - 1, half, 0, -1);
            if (signed) {
                sorted("type " + type, x, false, 3, 1, 3, 2, 0);
            } else {
                sorted("type " + type, x, false, 3, 2, 0, 1, 3);
            }
        }
        sorted("far apart", column(6, 0, Long.MAX_VALUE, Long.MIN_VALUE, 0, -1, 1), false, 4, 1, 3, 2, 4, 0);
        sorted("far apart, descending", column(6, 0, Long.MIN_VALUE, Long.MAX_VALUE, 0, 1, -1), true, 4, 1, 3, 2, 4, 0);
    }

    /** The value of a b is 0 or 1, whatever its byte is. */
    private static void sortByABoolean() {
        RecordLayouts x = column(7, 0, 0, 0, 0, 0, 0);
        int[] bytes = {200, 0, 1, 255, 0};
        for (int row = 0; row < 5; row++) {
            x.poke(x.address(0, row, 0), bytes[row]);
        }
        sorted("by a b", x, false, 5, 1, 4, 0, 2, 3);
        for (int row = 0; row < 5; row++) {
            Check.due("22 the byte of row " + row, x.memory(x.address(0, row, 0)), row < 2 ? 0 : 1);
        }
    }

    /** The value of a bit field is that of its bits alone. */
    private static void sortByABitField() {
        RecordLayouts x = Bounds.table("a:%4;k:%3;b:%9;", 4, 0, 0);
        long[] keys = {3, 7, 0, 4};
        for (int row = 0; row < 4; row++) {
            x.set(0, row, 0, 15 - row);
            x.set(0, row, 1, keys[row]);
            x.set(0, row, 2, 511 - row);
        }
        Check.due("28 by the bits in the middle", x.sort(0, 1, false), 4);
        int[] rows = {2, 0, 3, 1};
        for (int row = 0; row < 4; row++) {
            Check.due("28 a of row " + row, x.get(0, row, 0), 15 - rows[row]);
            Check.due("28 k of row " + row, x.get(0, row, 1), keys[rows[row]]);
            Check.due("28 b of row " + row, x.get(0, row, 2), 511 - rows[row]);
        }
    }

    /** "All leaves of the rows are written anew, nothing else." */
    private static void sortWritesLeavesOnly() {
        for (int layout = 0; layout <= 8; layout++) {
            RecordLayouts x = Bounds.table("a:u8;b:%3;c:u32;", 3, layout, 0);
            int bytes = x.tableInfo(0, 5);
            Bounds.paint(x, 0, bytes + 1, 0xF8);
            for (int row = 0; row < 3; row++) {
                x.set(0, row, 0, 9 - row);
            }
            boolean[] leaf = new boolean[bytes + 1];
            for (int row = 0; row < 3; row++) {
                leaf[x.address(0, row, 0)] = true;
            }
            Check.due("28 turned around", x.sort(0, 0, false), 2);
            for (int i = 0; i <= bytes; i++) {
                Check.due("22 byte " + i + " in layout " + layout, leaf[i] || x.memory(i) == 0xF8 ? 1 : 0, 1);
            }
        }
    }

    // ---- fill and copyRow

    /** "(with the overflow of long arithmetic ignored)" */
    private static void fillOverflows() {
        long[][] cases = {{Long.MAX_VALUE, 1}, {Long.MIN_VALUE, -1}, {0, Long.MAX_VALUE}, {0, Long.MIN_VALUE}, {-1, 0},
            {1, 1L << 60}, {Long.MAX_VALUE, Long.MAX_VALUE}, {5, -5}};
        for (long[] c : cases) {
            RecordLayouts x = Bounds.table("a:i64;b:u8;c:b;", 12, 1, 0);
            x.fill(0, 0, c[0], c[1]);
            x.fill(0, 1, c[0], c[1]);
            x.fill(0, 2, c[0], c[1]);
            long value = c[0];
            for (int row = 0; row < 12; row++) {
                Check.due("29 row " + row, x.get(0, row, 0), value);
                Check.due("29 the lowest 8 bits of row " + row, x.get(0, row, 1), value & 0xFF);
                Check.due("29 b of row " + row, x.get(0, row, 2), value == 0 ? 0 : 1);
                value += c[1];
            }
        }
    }

    /** "Returns the number of rows." */
    private static void fillReturnsTheRows() {
        for (int rows = 1; rows <= 12; rows++) {
            for (int layout = 0; layout <= 8; layout++) {
                RecordLayouts x = Bounds.table("a:u8;b:u8;", rows, layout, 0);
                Check.due("29 rows", x.fill(0, 1, 1, 0), rows);
                Check.due("33 each row", x.sum(0, 1), rows);
                Check.due("33 the other leaf", x.sum(0, 0), 0);
                int painted = 0;
                for (int i = 0; i < x.tableInfo(0, 5); i++) {
                    painted += x.memory(i);
                }
                Check.due("22 and no row beyond the last one", painted, rows);
            }
        }
    }

    /** "Writes all leaves of a row as those of another one": the same one is fine. */
    private static void copyRowToItself() {
        RecordLayouts x = Bounds.table("a:b;b:%3;c:i8;", 2, 0, 0);
        x.poke(0, 77);
        x.poke(1, 66);
        x.poke(2, 0xFD);
        x.poke(4, 0x80);
        Check.due("30 no value is another one", x.copyRow(0, 0, 0), 0);
        Check.due("22 a b is written as 1, all else stays", Check.bytes(x, 0, 6), "0142fd008000");
        Check.due("30 a state is saved", x.undo(), 3);
        Check.due("30 undone", x.memory(0), 77);
    }

    /** "Returns the number of leaves whose value is another one afterwards." */
    private static void copyRowCountsValues() {
        for (int layout = 0; layout <= 8; layout++) {
            RecordLayouts x = Bounds.table("a:b;b:%3;c:i8;d:i64;", 12, layout, 1);
            long[] values = {1, 5, -1, Long.MIN_VALUE};
            for (int leaf = 0; leaf < 4; leaf++) {
                x.set(0, 11, leaf, values[leaf]);
                Check.due("30 one more", x.copyRow(0, 11, 0), 1);
            }
            Check.due("30 all are equal", x.copyRow(0, 11, 0), 0);
            Check.due("30 all are others", x.copyRow(0, 11, 1), 4);
            Check.due("30 back to zeros", x.copyRow(0, 5, 11), 4);
            for (int leaf = 0; leaf < 4; leaf++) {
                Check.due("20 row 0", x.get(0, 0, leaf), values[leaf]);
                Check.due("20 row 1", x.get(0, 1, leaf), values[leaf]);
                Check.due("20 row 11", x.get(0, 11, leaf), 0);
                Check.due("20 row 2", x.get(0, 2, leaf), 0);
            }
        }
        RecordLayouts x = Bounds.table("a:b;", 2, 0, 0);
        x.poke(0, 3);
        x.poke(1, 4);
        Check.due("30 bytes 3 and 4 are the same b", x.copyRow(0, 0, 1), 0);
        Check.due("22 it is written as 1", x.memory(1), 1);
        Check.due("22 the other one stays", x.memory(0), 3);
    }

    private static void copyRowWritesLeavesOnly() {
        RecordLayouts x = Bounds.table("a:u8;b:%3;c:u32;", 3, 0, 0);
        Bounds.paint(x, 0, 24, 0xEF);
        Bounds.paint(x, 8, 16, 0x10);
        Check.due("30 all change", x.copyRow(0, 1, 0), 3);
        Check.due("22 padding and the other bits of the unit stay", Check.bytes(x, 0, 24),
                "10efe8ef10101010" + "10".repeat(8) + "ef".repeat(8));
    }
}
