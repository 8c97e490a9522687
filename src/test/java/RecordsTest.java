/** Promises 2 to 11: records, their fields and leaves, paths and the best order. */
public final class RecordsTest {
    public static void main(String[] args) {
        newRecord();
        addField();
        addFieldRefuses();
        addFieldStates();
        placing();
        recordInfo();
        fieldInfo();
        leafInfo();
        paths();
        deepPaths();
        findLeaf();
        best();
        bestWithBits();
        Check.finish();
    }

    private static void newRecord() {
        RecordLayouts x = new RecordLayouts();
        for (int pack : new int[] {0, 3, 5, 6, 7, 9, 16, -1, -8, Integer.MIN_VALUE, Integer.MAX_VALUE}) {
            Check.argument("2 newRecord " + pack, x, () -> x.newRecord(pack));
        }
        int[] packs = {1, 2, 4, 8, 8, 1};
        for (int i = 0; i < 6; i++) {
            Check.due("4 records", x.records(), i);
            Check.due("2 newRecord", x.newRecord(packs[i]), i);
            Check.due("2 pack", x.recordInfo(i, 0), packs[i]);
            Check.due("2 fields", x.recordInfo(i, 1), 0);
        }
        Check.due("4 records", x.records(), 6);
        Check.state("2 a seventh record", x, () -> x.newRecord(8));
        Check.argument("2 the argument first", x, () -> x.newRecord(7));
        Check.due("2 undoable", x.undo(), 3);
        Check.due("2 undone", x.records(), 5);
    }

    private static void addField() {
        RecordLayouts x = new RecordLayouts();
        x.newRecord(8);
        for (int i = 0; i < 8; i++) {
            Check.due("3 addField", x.addField(0, i % 2 == 0 ? 'a' + i : 'z' - i, i, 4), i + 1);
        }
        Check.due("3 leaves", x.recordInfo(0, 5), 32);
        Check.due("3 undoable", x.undo(), 3);
        Check.due("3 undone", x.recordInfo(0, 1), 7);
        Check.due("3 added again", x.addField(0, 'm', 36, 1), 8);
        Check.due("3 type 36", x.fieldInfo(0, 7, 1), 36);
    }

    private static void addFieldRefuses() {
        RecordLayouts x = new RecordLayouts();
        Check.index("3 no record at all", x, () -> x.addField(0, 'a', 0, 1));
        x.newRecord(8);
        Check.index("3 record -1", x, () -> x.addField(-1, 'a', 0, 1));
        Check.index("3 record 1, with all else wrong, too", x, () -> x.addField(1, 'A', 99, 9));
        for (int name : new int[] {'a' - 1, 'z' + 1, 'A', 0, -97}) {
            Check.argument("3 name " + name, x, () -> x.addField(0, name, 0, 1));
        }
        for (int type : new int[] {-1, 8, 9, 19, 20, 37, 99, 100, 101, 106, Integer.MIN_VALUE, Integer.MAX_VALUE}) {
            Check.argument("3 type " + type, x, () -> x.addField(0, 'a', type, 1));
        }
        for (int count : new int[] {0, 5, -1, Integer.MIN_VALUE, Integer.MAX_VALUE}) {
            Check.argument("3 count " + count, x, () -> x.addField(0, 'a', 0, count));
        }
        Check.argument("3 count 2 of a bit field", x, () -> x.addField(0, 'a', 21, 2));
        Check.argument("3 count 0 of a bit field", x, () -> x.addField(0, 'a', 36, 0));
        x.addField(0, 'a', 0, 1);
        Check.argument("3 a name again", x, () -> x.addField(0, 'a', 1, 1));
        x.newRecord(8);
        Check.argument("3 itself", x, () -> x.addField(1, 'a', 101, 1));
        Check.argument("3 a later record", x, () -> x.addField(0, 'b', 101, 1));
        x.newRecord(8);
        Check.argument("3 a record without fields", x, () -> x.addField(2, 'a', 101, 1));
        Check.due("3 a record with fields", x.addField(2, 'a', 100, 4), 1);
        Check.due("3 the same name in another record", x.addField(1, 'a', 100, 1), 1);
    }

    private static void addFieldStates() {
        RecordLayouts x = new RecordLayouts();
        Check.record(x, 8, "a:i8[4];b:i8[4];");
        x.newRecord(8);
        Check.due("3 32 leaves", x.addField(1, 'm', 100, 4), 1);
        Check.state("3 the type of a field", x, () -> x.addField(0, 'c', 0, 1));
        Check.argument("3 in use, but the argument first", x, () -> x.addField(0, 'a', 0, 1));
        Check.state("3 48 leaves", x, () -> x.addField(1, 'b', 100, 2));
        Check.due("3 40 leaves", x.addField(1, 'b', 100, 1), 2);
        Check.state("3 41 leaves", x, () -> x.addField(1, 'c', 21, 1));
        x.undo();
        Check.due("3 36 leaves", x.addField(1, 'z', 0, 4), 2);
        Check.due("3 40 leaves with plain ones", x.addField(1, 'y', 7, 4), 3);
        x.undo();
        x.undo();
        x.undo();
        Check.due("3 no longer in use", x.recordInfo(0, 6), 0);
        Check.due("3 can be changed again", x.addField(0, 'c', 0, 1), 3);
        Check.due("3 a table of it", x.newTable(0, 1, 0, 0), 0);
        Check.state("3 the record of a table", x, () -> x.addField(0, 'd', 0, 1));
        x.removeTable(0);
        Check.due("3 without the table", x.addField(0, 'd', 0, 1), 4);
        Check.record(x, 8, "a:b;b:b;c:b;d:b;e:b;f:b;g:b;h:b;");
        Check.state("3 a ninth field", x, () -> x.addField(2, 'i', 0, 1));
        Check.argument("3 a ninth field with a wrong type", x, () -> x.addField(2, 'i', 8, 1));
    }

    /** Offsets and bits of the fields, then size, alignment, padding. */
    private static void placed(int pack, String definition, int... want) {
        RecordLayouts x = new RecordLayouts();
        Check.record(x, 8, "a:i64;b:i8;");
        Check.record(x, 2, "a:i64;b:i8;");
        int r = Check.record(x, pack, definition);
        String what = "pack " + pack + " " + definition;
        int fields = x.recordInfo(r, 1);
        for (int f = 0; f < fields; f++) {
            Check.due(what + " offset of field " + f, x.fieldInfo(r, f, 3), want[2 * f]);
            Check.due(what + " bit of field " + f, x.fieldInfo(r, f, 4), want[2 * f + 1]);
        }
        for (int i = 0; i < 3; i++) {
            Check.due(what + " information " + (2 + i), x.recordInfo(r, 2 + i), want[2 * fields + i]);
        }
    }

    private static void placing() {
        placed(8, "a:i8;b:i64;", 0, 0, 8, 0, 16, 8, 7);
        placed(4, "a:i8;b:i64;", 0, 0, 4, 0, 12, 4, 3);
        placed(2, "a:i8;b:i64;", 0, 0, 2, 0, 10, 2, 1);
        placed(1, "a:i8;b:i64;", 0, 0, 1, 0, 9, 1, 0);
        placed(8, "a:i32;b:u8[3];c:u16;", 0, 0, 4, 0, 8, 0, 12, 4, 3);
        // A unit is left when the next bit field does not fit, or when something else stands between.
        placed(8, "a:%9;b:%7;c:%1;", 0, 0, 0, 9, 2, 0, 4, 2, 0);
        placed(8, "a:%9;b:%8;c:%8;", 0, 0, 2, 0, 2, 8, 4, 2, 0);
        placed(8, "a:%3;b:i8;c:%3;", 0, 0, 2, 0, 4, 0, 6, 2, 1);
        placed(8, "a:%12;b:%5;c:%4;", 0, 0, 2, 0, 2, 5, 4, 2, 0);
        placed(8, "a:%16;b:%16;c:b;", 0, 0, 2, 0, 4, 0, 6, 2, 1);
        // With pack 1 a unit may have an odd offset.
        placed(1, "a:i8;b:%3;c:%13;d:i8;", 0, 0, 1, 0, 1, 3, 3, 0, 4, 1, 0);
        placed(8, "a:i8;b:%3;", 0, 0, 2, 0, 4, 2, 1);
        placed(8, "a:i8;b:%1;", 0, 0, 2, 0, 4, 2, 1);
        placed(8, "a:%15;b:%1;c:%1;", 0, 0, 0, 15, 2, 0, 4, 2, 0);
        // Records within records: the alignment is the smaller one of theirs and the pack.
        placed(8, "a:i8;b:#0[2];c:i8;", 0, 0, 8, 0, 40, 0, 48, 8, 28);
        placed(4, "a:i8;b:#0[2];c:i8;", 0, 0, 4, 0, 36, 0, 40, 4, 20);
        placed(8, "a:i8;b:#1[2];c:i8;", 0, 0, 2, 0, 22, 0, 24, 2, 4);
        placed(8, "a:%3;b:#1;c:%3;", 0, 0, 2, 0, 12, 0, 14, 2, 1);
    }

    private static void recordInfo() {
        RecordLayouts x = new RecordLayouts();
        Check.index("5 no record", x, () -> x.recordInfo(0, 0));
        x.newRecord(4);
        int[] empty = {4, 0, 0, 1, 0, 0, 0};
        for (int what = 0; what <= 6; what++) {
            Check.due("5 of an empty record " + what, x.recordInfo(0, what), empty[what]);
        }
        Check.index("5 record -1", x, () -> x.recordInfo(-1, 0));
        Check.index("5 record 1 before what", x, () -> x.recordInfo(1, 7));
        Check.argument("5 what 7", x, () -> x.recordInfo(0, 7));
        Check.argument("5 what -1", x, () -> x.recordInfo(0, -1));
        x.addField(0, 'a', 6, 2);
        Check.due("5 not in use", x.recordInfo(0, 6), 0);
        x.newRecord(8);
        x.addField(1, 'a', 100, 1);
        Check.due("5 in use as a type", x.recordInfo(0, 6), 1);
        Check.due("5 the outer one is not", x.recordInfo(1, 6), 0);
        x.newTable(1, 1, 0, 0);
        Check.due("5 in use as a table's record", x.recordInfo(1, 6), 1);
        x.removeTable(0);
        Check.due("5 no longer", x.recordInfo(1, 6), 0);
    }

    private static void fieldInfo() {
        RecordLayouts x = new RecordLayouts();
        Check.record(x, 8, "a:i32;b:i8;");
        Check.record(x, 8, "q:u16[3];z:#0[2];d:%7;e:%5;f:i64;");
        int[][] want = {{'q', 3, 3, 0, 0, 2}, {'z', 100, 2, 8, 0, 8}, {'d', 27, 1, 24, 0, 2},
            {'e', 25, 1, 24, 7, 2}, {'f', 6, 1, 32, 0, 8}};
        for (int f = 0; f < 5; f++) {
            for (int what = 0; what <= 5; what++) {
                Check.due("6 field " + f + " what " + what, x.fieldInfo(1, f, what), want[f][what]);
            }
        }
        Check.index("6 field 5", x, () -> x.fieldInfo(1, 5, 0));
        Check.index("6 field -1", x, () -> x.fieldInfo(1, -1, 9));
        Check.index("6 record 2", x, () -> x.fieldInfo(2, 0, 0));
        Check.index("6 record -1", x, () -> x.fieldInfo(-1, 0, 0));
        Check.argument("6 what 6", x, () -> x.fieldInfo(1, 0, 6));
        Check.argument("6 what -1", x, () -> x.fieldInfo(1, 0, -1));
    }

    private static void leafInfo() {
        RecordLayouts x = new RecordLayouts();
        Check.record(x, 8, "a:%3;b:%4;c:i32;");
        Check.record(x, 8, "h:b;p:#0[2];q:u8[2];");
        int[][] want = {{7, 0, 0, 0}, {23, 4, 0, 1}, {24, 4, 3, 1}, {4, 8, 0, 1}, {23, 12, 0, 1}, {24, 12, 3, 1},
            {4, 16, 0, 1}, {1, 20, 0, 2}, {1, 21, 0, 2}};
        for (int leaf = 0; leaf < 9; leaf++) {
            for (int what = 0; what <= 3; what++) {
                Check.due("7 leaf " + leaf + " what " + what, x.leafInfo(1, leaf, what), want[leaf][what]);
            }
        }
        Check.index("7 leaf 9", x, () -> x.leafInfo(1, 9, 0));
        Check.index("7 leaf -1", x, () -> x.leafInfo(1, -1, 4));
        Check.index("7 record 2", x, () -> x.leafInfo(2, 0, 0));
        Check.argument("7 what 4", x, () -> x.leafInfo(1, 0, 4));
        Check.argument("7 what -1", x, () -> x.leafInfo(1, 0, -1));
        x.newRecord(1);
        Check.index("7 a record without leaves", x, () -> x.leafInfo(2, 0, 0));
    }

    private static void paths() {
        RecordLayouts x = new RecordLayouts();
        Check.record(x, 8, "a:i8;z:b[2];");
        Check.record(x, 8, "h:b;p:#0[2];q:#0;r:u8[4];");
        String[] want = {"h", "p[0].a", "p[0].z[0]", "p[0].z[1]", "p[1].a", "p[1].z[0]", "p[1].z[1]", "q.a", "q.z[0]",
            "q.z[1]", "r[0]", "r[1]", "r[2]", "r[3]"};
        for (int leaf = 0; leaf < want.length; leaf++) {
            Check.due("8 path of leaf " + leaf, Check.path(x, 1, leaf), want[leaf]);
        }
        for (int index : new int[] {-1, 9, 10, Integer.MIN_VALUE, Integer.MAX_VALUE}) {
            Check.due("8 byte " + index, x.pathByte(1, 2, index), RecordLayouts.NONE);
        }
        Check.due("8 last byte", x.pathByte(1, 2, 8), ']');
        Check.index("8 leaf 14", x, () -> x.pathByte(1, 14, 0));
        Check.index("8 leaf -1", x, () -> x.pathByte(1, -1, 0));
        Check.index("8 record 2", x, () -> x.pathByte(2, 0, 0));
        Check.index("8 record -1", x, () -> x.pathByte(-1, 0, 0));
    }

    private static void deepPaths() {
        RecordLayouts x = new RecordLayouts();
        Check.record(x, 8, "a:u8[2];");
        for (int r = 1; r < 6; r++) {
            Check.record(x, 8, (char) ('a' + r) + ":#" + (r - 1) + (r == 1 || r > 4 ? "[2];" : ";"));
        }
        Check.due("8 leaves of the deepest record", x.recordInfo(5, 5), 8);
        Check.due("8 the first path", Check.path(x, 5, 0), "f[0].e.d.c.b[0].a[0]");
        Check.due("8 the last path", Check.path(x, 5, 7), "f[1].e.d.c.b[1].a[1]");
        Check.write(x, "f[1].e.d.c.b[0].a[1]");
        Check.due("9 a deep path", x.findLeaf(5), 5);
    }

    private static void findLeaf() {
        RecordLayouts x = new RecordLayouts();
        Check.index("9 no record", x, () -> x.findLeaf(0));
        Check.record(x, 8, "a:i8;z:b[2];");
        Check.record(x, 8, "h:b;p:#0[2];r:u8[4];z:#0;");
        String[] texts = {"h", "p[1].z[0]", "r[3]", "z.z[1]", "", "p", "p[1]", "p[1].", "p[1].z", "p[1].z[0]x",
            "r", "r[4]", "hh", "h.", "a", "z.a[0]", "R[3]"};
        int[] want = {0, 5, 10, 13, -1, -1, -1, -1, -1, -1, -1, -1, -1, -1, -1, -1, -1};
        for (int i = 0; i < texts.length; i++) {
            Check.write(x, texts[i]);
            Check.due("9 findLeaf of " + texts[i], x.findLeaf(1), want[i]);
        }
        Check.index("9 record 2", x, () -> x.findLeaf(2));
        Check.index("9 record -1", x, () -> x.findLeaf(-1));
        x.newRecord(8);
        Check.write(x, "a");
        Check.due("9 a record without leaves", x.findLeaf(2), RecordLayouts.NONE);
    }

    private static void bestIs(int pack, String definition, int size, int... order) {
        RecordLayouts x = new RecordLayouts();
        Check.record(x, 8, "a:i64;b:i8;");
        int r = Check.record(x, pack, definition);
        long before = x.digest();
        Check.due("10 best size of " + definition, x.bestSize(r), size);
        for (int i = 0; i < order.length; i++) {
            Check.due("11 best order of " + definition + " at " + i, x.bestOrder(r, i), order[i]);
        }
        Check.due("10 nothing changes", x.digest(), before);
    }

    private static void best() {
        bestIs(8, "a:i8;b:i64;c:i8;", 16, 0, 2, 1);
        bestIs(8, "a:i8;b:i64;c:i8;d:i32;", 16, 0, 2, 3, 1);
        bestIs(8, "a:i8;b:i32;c:i16;", 8, 0, 2, 1);
        bestIs(8, "a:i64;b:i32;c:i16;d:i8;", 16, 0, 1, 2, 3);
        bestIs(1, "a:i8;b:i64;c:i8;", 10, 0, 1, 2);
        bestIs(2, "a:i8;b:i64;c:i8;", 10, 0, 2, 1);
        bestIs(8, "a:i8;b:#0;c:i32;", 24, 0, 2, 1);
        bestIs(8, "q:i32;", 4, 0);
        // The smallest end is not asked for, but the smallest size: the order of the numbers is as good.
        bestIs(8, "a:i8;b:i16;c:i64;", 16, 0, 1, 2);
        RecordLayouts x = new RecordLayouts();
        Check.index("10 no record", x, () -> x.bestSize(0));
        Check.index("11 no record", x, () -> x.bestOrder(0, 0));
        x.newRecord(8);
        Check.due("10 of an empty record", x.bestSize(0), 0);
        Check.index("11 of an empty record", x, () -> x.bestOrder(0, 0));
        x.addField(0, 'a', 0, 1);
        Check.due("10 asked again", x.bestSize(0), 1);
        x.addField(0, 'b', 6, 1);
        Check.due("10 asked again after a change", x.bestSize(0), 16);
        x.undo();
        Check.due("10 asked again after undo", x.bestSize(0), 1);
        Check.due("11 position 0", x.bestOrder(0, 0), 0);
        Check.index("11 position 1", x, () -> x.bestOrder(0, 1));
        Check.index("11 position -1", x, () -> x.bestOrder(0, -1));
        Check.index("11 record 1", x, () -> x.bestOrder(1, 0));
        Check.index("11 record -1", x, () -> x.bestOrder(-1, 0));
        Check.index("11 record 6", x, () -> x.bestOrder(6, 0));
        Check.index("10 record -1", x, () -> x.bestSize(-1));
    }

    private static void bestWithBits() {
        bestIs(8, "a:%9;b:i16;c:%7;", 4, 0, 2, 1);
        bestIs(8, "a:%15;b:i16;c:%1;", 4, 0, 2, 1);
        bestIs(8, "a:%9;b:%9;c:%7;d:%7;", 4, 0, 2, 1, 3);
        bestIs(8, "a:%10;b:%10;c:%3;d:%3;e:%3;f:%3;", 4, 0, 2, 3, 1, 4, 5);
        bestIs(1, "a:%9;b:i8;c:%7;", 3, 0, 2, 1);
        bestIs(8, "a:%3;b:i32;c:%3;d:i16;", 8, 0, 2, 3, 1);
    }
}
