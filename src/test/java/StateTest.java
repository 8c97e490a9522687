/** Promises 1, 37 and 38: a new object, undo and the digest. */
public final class StateTest {
    public static void main(String[] args) {
        newObject();
        none();
        undoRestores();
        fourStates();
        everyUndoableCall();
        notUndoable();
        undoAndText();
        emptyDigest();
        digest();
        Check.finish();
    }

    private static void newObject() {
        RecordLayouts x = new RecordLayouts();
        Check.due("1 records", x.records(), 0);
        Check.due("1 tables", x.tables(), 0);
        Check.due("1 free bytes", x.freeBytes(false), 1024);
        Check.due("1 memory", Check.bytes(x, 0, 1024), "00".repeat(1024));
        Check.due("1 text", x.clearText(), 0);
        Check.state("1 no state is saved", x, () -> x.undo());
        RecordLayouts y = new RecordLayouts();
        y.newRecord(8);
        Check.due("1 objects are independent", x.records(), 0);
    }

    private static void none() {
        Check.due("NONE", RecordLayouts.NONE, -1);
    }

    private static void undoRestores() {
        RecordLayouts x = new RecordLayouts();
        Check.record(x, 8, "a:%3;b:i32;");
        Check.record(x, 4, "c:#0[2];d:b;");
        x.newTable(1, 3, 2, 1);
        x.fill(0, 1, 1000, 7);
        long values = x.digest();
        x.newTable(0, 5, 0, 0);
        x.migrate(0, 0, 8);
        x.compact();
        x.undo();
        x.undo();
        Check.due("37 undo", x.undo(), 1);
        x.poke(900, 1);
        x.undo();
        Check.due("37 values", x.get(0, 2, 1), 1014);
        Check.due("37 layout", x.tableInfo(0, 2), 2);
        Check.due("37 bytes", x.tableInfo(0, 5), 64);
        x.poke(1000, 0);
        x.poke(1000, 0);
        x.poke(1000, 0);
        Check.due("37 the same digest with as many saved states", x.digest(), values);
    }

    private static void fourStates() {
        RecordLayouts x = new RecordLayouts();
        for (int i = 1; i <= 7; i++) {
            x.poke(0, i);
        }
        for (int i = 3; i >= 0; i--) {
            Check.due("37 still saved", x.undo(), i);
            Check.due("37 the byte", x.memory(0), 3 + i);
        }
        Check.state("37 the older ones were dropped", x, () -> x.undo());
        x.poke(0, 50);
        x.poke(0, 51);
        Check.due("37 saved again", x.undo(), 1);
        x.poke(0, 52);
        x.poke(0, 53);
        x.poke(0, 54);
        x.poke(0, 55);
        int[] want = {54, 53, 52, 50};
        for (int i = 0; i < 4; i++) {
            Check.due("37 around the end", x.undo(), 3 - i);
            Check.due("37 the byte", x.memory(0), want[i]);
        }
        Check.state("37 none left", x, () -> x.undo());
    }

    private static int saved(RecordLayouts x) {
        int saved = x.undo();
        x.poke(0, 0);
        return saved;
    }

    /** Each of these saves a state even if nothing changes. */
    private static void everyUndoableCall() {
        RecordLayouts x = new RecordLayouts();
        x.newRecord(8);
        Check.due("2 saves", saved(x), 0);
        x.undo();
        x.newRecord(8);
        x.addField(0, 'a', 0, 1);
        Check.due("3 saves", x.undo(), 1);
        x.addField(0, 'a', 0, 1);
        x.newTable(0, 3, 0, 0);
        Check.due("15 saves", x.undo(), 2);
        x.newTable(0, 3, 0, 0);
        long[][] calls = {
            {21, x.set(0, 0, 0, 0), x.undo()}, {23, x.poke(0, 0), x.undo()}, {25, x.convert(0, 0, 0), x.undo()},
            {26, x.migrate(0, 0, 0), x.undo()}, {27, x.compact(), x.undo()}, {28, x.sort(0, 0, true), x.undo()},
            {29, x.fill(0, 0, 0, 0), x.undo()}, {30, x.copyRow(0, 1, 1), x.undo()}, {16, x.removeTable(0), x.undo()}};
        for (long[] call : calls) {
            Check.due(call[0] + " saves", call[2], 3);
        }
        Check.due("37 the state before is the one of newTable", x.undo(), 2);
        Check.due("37 no table", x.tables(), 0);
    }

    private static void notUndoable() {
        RecordLayouts x = new RecordLayouts();
        Check.record(x, 8, "a:i8;");
        x.newTable(0, 2, 0, 0);
        Check.write(x, "a:");
        x.define(8);
        Check.answer(() -> x.newRecord(7));
        Check.answer(() -> x.set(0, 5, 0, 1));
        Check.answer(() -> x.newTable(0, 13, 0, 0));
        x.records();
        x.recordInfo(0, 2);
        x.fieldInfo(0, 0, 0);
        x.leafInfo(0, 0, 0);
        x.pathByte(0, 0, 0);
        x.findLeaf(0);
        x.bestSize(0);
        x.bestOrder(0, 0);
        x.tables();
        x.tableInfo(0, 0);
        x.address(0, 0, 0);
        x.get(0, 0, 0);
        x.memory(0);
        x.freeBytes(true);
        x.count(0, 0, 0, 0);
        x.findRow(0, 0, 0, 0);
        x.sum(0, 0);
        x.lines(0, 1, 0, 0, 16);
        x.runs(0, 1, 0, 0);
        x.bestLayout(0, 1, 16);
        x.digest();
        Check.due("37 only two states were saved", x.undo(), 1);
        Check.due("37 the table is gone", x.tables(), 0);
    }

    private static void undoAndText() {
        RecordLayouts x = new RecordLayouts();
        Check.write(x, "a:i8;");
        x.define(8);
        Check.write(x, "abc");
        x.undo();
        Check.due("37 the text is no part of the state", x.clearText(), 3);
        // Records that were undone leave no fields behind.
        x.newRecord(2);
        Check.due("37 a new record in the old place", x.recordInfo(0, 1), 0);
        Check.due("37 without leaves", x.recordInfo(0, 5), 0);
        Check.due("37 with its pack", x.recordInfo(0, 0), 2);
    }

    private static long hash(long... values) {
        long h = 1733;
        for (long value : values) {
            h = 31 * h + value;
        }
        return h;
    }

    private static void emptyDigest() {
        RecordLayouts x = new RecordLayouts();
        Check.due("38 of a new object", x.digest(), hash(new long[1028]));
    }

    private static void digest() {
        RecordLayouts x = new RecordLayouts();
        x.newRecord(4);
        x.addField(0, 'b', 0, 2);
        x.addField(0, 'a', 23, 1);
        x.addField(0, 'c', 26, 1);
        x.newRecord(8);
        x.newTable(0, 2, 0, 0);
        x.newTable(0, 3, 1, 1);
        x.newTable(0, 1, 8, 0);
        x.removeTable(1);
        x.append('q');
        x.append('q');
        x.poke(0, 200);
        x.poke(1023, 255);
        long[] head = {2, 4, 3, 4, 2, 0, 4, 'b', 0, 2, 0, 0, 'a', 23, 1, 2, 0, 'c', 26, 1, 2, 3, 8, 0, 0, 1, 0, 0, 5,
            0, 2, 0, 0, 0, 8, 0, 1, 8, 0, 48, 48};
        long[] values = new long[head.length + 1024 + 2];
        System.arraycopy(head, 0, values, 0, head.length);
        values[head.length] = 200;
        values[head.length + 1023] = 255;
        values[head.length + 1024] = 2;
        values[head.length + 1025] = 4;
        Check.due("38 digest", x.digest(), hash(values));
        x.undo();
        values[head.length + 1023] = 0;
        values[head.length + 1025] = 3;
        Check.due("38 digest after undo", x.digest(), hash(values));
    }
}
