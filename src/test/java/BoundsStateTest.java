import java.util.concurrent.Callable;

/** One test for each sentence of UNDO, of promises 1, 37 and 38, and of the whole that names a boundary case. */
public final class BoundsStateTest {
    public static void main(String[] args) {
        newObject();
        newObjectRefuses();
        manyObjects();
        undoWithoutStates();
        atMostFourStates();
        oldestIsDroppedFirst();
        undoIsNotUndoable();
        latestStateIsRestored();
        savesEvenIfNothingChanges();
        savesNothing();
        everythingExceptTheText();
        undoOfEachCall();
        undoOfOverwrittenRecords();
        undoOfOverwrittenTables();
        digestOfANewObject();
        digestOfBytes();
        digestOfTextAndStates();
        digestOfAFullObject();
        digestChangesNothing();
        noneIsMinusOne();
        fiveHundredAndTwelveCalls();
        Check.finish();
    }

    // ---- promise 1

    /** "Creates a memory without tables; there are no records, the text is empty, no state is saved." */
    private static void newObject() {
        RecordLayouts x = new RecordLayouts();
        Check.due("4 records", x.records(), 0);
        Check.due("17 tables", x.tables(), 0);
        Check.due("24 free", x.freeBytes(false), 1024);
        Check.due("24 room", x.freeBytes(true), 1024);
        Check.due("27 compact", new RecordLayouts().compact(), 0);
        Check.due("14 define", x.define(1), -10);
        Check.due("13 clearText", x.clearText(), 0);
        Check.state("37 undo", x, () -> x.undo());
        Check.due("12 append", new RecordLayouts().append(0), 1);
        Check.due("2 newRecord", new RecordLayouts().newRecord(1), 0);
        Check.due("23 poke", new RecordLayouts().poke(0, 255), 0);
    }

    private static void newObjectRefuses() {
        RecordLayouts x = new RecordLayouts();
        Check.index("3", x, () -> x.addField(0, 97, 0, 1));
        Check.index("5", x, () -> x.recordInfo(0, 0));
        Check.index("6", x, () -> x.fieldInfo(0, 0, 0));
        Check.index("7", x, () -> x.leafInfo(0, 0, 0));
        Check.index("8", x, () -> x.pathByte(0, 0, 0));
        Check.index("9", x, () -> x.findLeaf(0));
        Check.index("10", x, () -> x.bestSize(0));
        Check.index("11", x, () -> x.bestOrder(0, 0));
        Check.index("15", x, () -> x.newTable(0, 1, 0, 0));
        for (int table = -1; table <= 3; table++) {
            int t = table;
            Check.index("16", x, () -> x.removeTable(t));
            Check.index("18", x, () -> x.tableInfo(t, 0));
            Check.index("19", x, () -> x.address(t, 0, 0));
            Check.index("20", x, () -> x.get(t, 0, 0));
            Check.index("21", x, () -> x.set(t, 0, 0, 0));
            Check.index("25", x, () -> x.convert(t, 0, 0));
            Check.index("26", x, () -> x.migrate(t, 0, 0));
            Check.index("28", x, () -> x.sort(t, 0, true));
            Check.index("29", x, () -> x.fill(t, 0, 0, 0));
            Check.index("30", x, () -> x.copyRow(t, 0, 0));
            Check.index("31", x, () -> x.count(t, 0, 0, 0));
            Check.index("32", x, () -> x.findRow(t, 0, 0, 0));
            Check.index("33", x, () -> x.sum(t, 0));
            Check.index("34", x, () -> x.lines(t, 0, 0, 0, 16));
            Check.index("35", x, () -> x.runs(t, 0, 0, 0));
            Check.index("36", x, () -> x.bestLayout(t, 0, 16));
        }
    }

    /** What is done with one object is not seen in another one. */
    private static void manyObjects() {
        RecordLayouts x = Bounds.table("a:i64;", 12, 0, 0);
        x.fill(0, 0, -1, 0);
        x.append('a');
        long before = x.digest();
        RecordLayouts y = new RecordLayouts();
        Check.due("38 another one is new", y.digest(), hash(new long[1028]));
        Check.record(y, 2, "b:%7;");
        y.newTable(0, 1, 1, 1);
        y.poke(0, 3);
        Check.due("38 the first one is as before", x.digest(), before);
        Check.due("9 its text, too", x.findLeaf(0), 0);
    }

    // ---- UNDO

    /** "Throws IllegalStateException if no state is saved" */
    private static void undoWithoutStates() {
        RecordLayouts x = new RecordLayouts();
        Check.state("37 a new object", x, () -> x.undo());
        x.append('a');
        x.clearText();
        Check.state("37 a text is no state", x, () -> x.undo());
        x.compact();
        Check.due("37 one state", x.undo(), 0);
        Check.state("37 none again", x, () -> x.undo());
        Check.state("37 and still", x, () -> x.undo());
        x.poke(0, 1);
        Check.due("37 one again", x.undo(), 0);
    }

    /** "At most 4 states are saved", "Returns the number of states that are still saved." */
    private static void atMostFourStates() {
        for (int many = 0; many <= 12; many++) {
            RecordLayouts x = new RecordLayouts();
            for (int i = 1; i <= many; i++) {
                x.poke(i % 1024, i);
            }
            for (int left = Math.min(many, 4) - 1; left >= 0; left--) {
                Check.due("37 still saved of " + many, x.undo(), left);
            }
            Check.state("37 no more of " + many, x, () -> x.undo());
            for (int i = 1; i <= many; i++) {
                Check.due("22 byte " + i + " of " + many, x.memory(i), i <= many - 4 ? i : 0);
            }
        }
    }

    /** "the oldest one is dropped first" */
    private static void oldestIsDroppedFirst() {
        for (int many = 4; many <= 12; many++) {
            RecordLayouts x = new RecordLayouts();
            for (int i = 1; i <= many; i++) {
                x.poke(0, i);
            }
            for (int i = 1; i <= 4; i++) {
                Check.due("37 still saved", x.undo(), 4 - i);
                Check.due("22 the byte " + i + " states before " + many, x.memory(0), many - i);
            }
        }
    }

    /** Undo saves nothing itself: undo again goes on to the state before. */
    private static void undoIsNotUndoable() {
        RecordLayouts x = new RecordLayouts();
        for (int i = 1; i <= 4; i++) {
            x.poke(0, i);
        }
        Check.due("37 undo", x.undo(), 3);
        Check.due("37 undo", x.undo(), 2);
        Check.due("22 byte", x.memory(0), 2);
        x.poke(0, 9);
        Check.due("37 undo of the new one", x.undo(), 2);
        Check.due("22 byte", x.memory(0), 2);
        Check.due("37 undo", x.undo(), 1);
        Check.due("22 byte", x.memory(0), 1);
        for (int i = 5; i <= 7; i++) {
            x.poke(0, i);
        }
        int[] want = {6, 5, 1, 0};
        for (int i = 0; i < 4; i++) {
            Check.due("37 undo", x.undo(), 3 - i);
            Check.due("22 byte", x.memory(0), want[i]);
        }
    }

    /** "Restores the latest saved state and removes it from the saved ones." */
    private static void latestStateIsRestored() {
        for (int undone = 0; undone <= 4; undone++) {
            for (int more = 0; more <= 5; more++) {
                RecordLayouts x = new RecordLayouts();
                java.util.ArrayList<Integer> want = new java.util.ArrayList<>();
                int byteNow = 0;
                for (int i = 1; i <= 6; i++) {
                    want.add(byteNow);
                    byteNow = i;
                    x.poke(5, i);
                }
                while (want.size() > 4) {
                    want.remove(0);
                }
                for (int i = 0; i < undone; i++) {
                    x.undo();
                    byteNow = want.remove(want.size() - 1);
                }
                for (int i = 0; i < more; i++) {
                    want.add(byteNow);
                    byteNow = 100 + i;
                    x.poke(5, byteNow);
                }
                while (want.size() > 4) {
                    want.remove(0);
                }
                Check.due("22 byte", x.memory(5), byteNow);
                while (!want.isEmpty()) {
                    int due = want.remove(want.size() - 1);
                    Check.due("37 after " + undone + " and " + more, x.undo(), want.size());
                    Check.due("22 byte after " + undone + " and " + more, x.memory(5), due);
                }
                Check.state("37 none left", x, () -> x.undo());
            }
        }
    }

    private static RecordLayouts small(int saved) {
        RecordLayouts x = Bounds.table("a:b;b:i16;", 3, 1, 0);
        while (x.undo() > 0) {
            // One state after the other is taken back, so that the number of saved ones is known.
            continue;
        }
        Check.write(x, "a:b;b:i16;");
        x.define(8);
        x.newTable(0, 3, 1, 0);
        for (int i = 2; i < saved; i++) {
            x.poke(1000, 0);
        }
        return x;
    }

    private static void saves(String what, Bounds.CallWith call) {
        for (int saved = 2; saved <= 4; saved++) {
            RecordLayouts x = small(saved);
            long before = x.digest();
            Object got = Check.answer(() -> call.of(x, 0));
            Check.due(what + " is refused: " + got, got instanceof String ? 1 : 0, 0);
            Check.due(what + " saves", x.undo(), Math.min(saved, 3));
            // The number of saved states is what the digest ends with.
            Check.due(what + " undone", x.digest(), saved == 4 ? before - 1 : before);
        }
    }

    /**
     * "Each successful call of a method that is described as undoable saves the state ..., even if nothing changes."
     */
    private static void savesEvenIfNothingChanges() {
        saves("2 newRecord", (x, n) -> x.newRecord(8));
        saves("14 define", (x, n) -> x.define(8));
        saves("15 newTable", (x, n) -> x.newTable(0, 1, 0, 0));
        saves("16 removeTable", (x, n) -> x.removeTable(0));
        saves("21 set of the same value", (x, n) -> x.set(0, 0, 0, 0));
        saves("21 set of another value", (x, n) -> x.set(0, 2, 1, -1));
        saves("23 poke of the same byte", (x, n) -> x.poke(0, 0));
        saves("23 poke of another byte", (x, n) -> x.poke(1023, 255));
        saves("25 convert to the same", (x, n) -> x.convert(0, 1, 0));
        saves("25 convert", (x, n) -> x.convert(0, 0, 1));
        saves("26 migrate to the same", (x, n) -> x.migrate(0, 0, 1));
        saves("27 compact", (x, n) -> x.compact());
        saves("28 sort of equal rows", (x, n) -> x.sort(0, 0, false));
        saves("28 sort, descending", (x, n) -> x.sort(0, 1, true));
        saves("29 fill with the same", (x, n) -> x.fill(0, 1, 0, 0));
        saves("29 fill", (x, n) -> x.fill(0, 1, 5, 5));
        saves("30 copyRow to itself", (x, n) -> x.copyRow(0, 1, 1));
        saves("30 copyRow", (x, n) -> x.copyRow(0, 1, 2));
        for (int saved = 1; saved <= 4; saved++) {
            RecordLayouts x = new RecordLayouts();
            x.newRecord(8);
            for (int i = 1; i < saved; i++) {
                x.poke(0, 0);
            }
            long before = x.digest();
            x.addField(0, 'q', 21, 1);
            Check.due("3 addField saves", x.undo(), Math.min(saved, 3));
            Check.due("3 addField undone", x.digest(), saved == 4 ? before - 1 : before);
        }
    }

    private static void savesNot(String what, Bounds.CallWith call) {
        RecordLayouts x = small(3);
        long before = x.digest();
        Check.answer(() -> call.of(x, 0));
        Check.due(what + " saves no state", x.undo(), 2);
        RecordLayouts y = small(3);
        y.undo();
        x.clearText();
        y.clearText();
        Check.due(what + ": the state before", x.digest(), y.digest());
        Check.due("38 it differed", before == x.digest() ? 1 : 0, 0);
    }

    /** All other calls, refused ones and a definition with an error save nothing. */
    private static void savesNothing() {
        savesNot("4 records", (x, n) -> x.records());
        savesNot("5 recordInfo", (x, n) -> x.recordInfo(0, 2));
        savesNot("6 fieldInfo", (x, n) -> x.fieldInfo(0, 0, 0));
        savesNot("7 leafInfo", (x, n) -> x.leafInfo(0, 0, 0));
        savesNot("8 pathByte", (x, n) -> x.pathByte(0, 0, 0));
        savesNot("9 findLeaf", (x, n) -> x.findLeaf(0));
        savesNot("10 bestSize", (x, n) -> x.bestSize(0));
        savesNot("11 bestOrder", (x, n) -> x.bestOrder(0, 1));
        savesNot("12 append", (x, n) -> x.append('q'));
        savesNot("13 clearText", (x, n) -> x.clearText());
        savesNot("14 define with an error", (x, n) -> {
            x.append(';');
            return x.define(8);
        });
        savesNot("17 tables", (x, n) -> x.tables());
        savesNot("18 tableInfo", (x, n) -> x.tableInfo(0, 5));
        savesNot("19 address", (x, n) -> x.address(0, 2, 1));
        savesNot("20 get", (x, n) -> x.get(0, 2, 1));
        savesNot("22 memory", (x, n) -> x.memory(1023));
        savesNot("24 freeBytes", (x, n) -> x.freeBytes(true));
        savesNot("31 count", (x, n) -> x.count(0, 0, 1, 0));
        savesNot("32 findRow", (x, n) -> x.findRow(0, 0, 0, 0));
        savesNot("33 sum", (x, n) -> x.sum(0, 1));
        savesNot("34 lines", (x, n) -> x.lines(0, 3, 0, 2, 16));
        savesNot("35 runs", (x, n) -> x.runs(0, 3, 0, 2));
        savesNot("36 bestLayout", (x, n) -> x.bestLayout(0, 3, 16));
        savesNot("38 digest", (x, n) -> x.digest());
        savesNot("2 newRecord that is refused", (x, n) -> x.newRecord(3));
        savesNot("3 addField that is refused", (x, n) -> x.addField(0, 'z', 0, 1));
        savesNot("15 newTable that is refused", (x, n) -> x.newTable(0, 13, 0, 0));
        savesNot("16 removeTable that is refused", (x, n) -> x.removeTable(1));
        savesNot("21 set that is refused", (x, n) -> x.set(0, 3, 0, 1));
        savesNot("23 poke that is refused", (x, n) -> x.poke(0, 256));
        savesNot("25 convert that is refused", (x, n) -> x.convert(0, 9, 0));
        savesNot("26 migrate that is refused", (x, n) -> x.migrate(0, 1, 0));
        savesNot("28 sort that is refused", (x, n) -> x.sort(0, 2, false));
        savesNot("29 fill that is refused", (x, n) -> x.fill(0, 2, 1, 1));
        savesNot("30 copyRow that is refused", (x, n) -> x.copyRow(0, 0, 3));
    }

    /** "The state consists of everything except the text." */
    private static void everythingExceptTheText() {
        RecordLayouts x = new RecordLayouts();
        Check.write(x, "a:b;");
        x.define(8);
        Check.write(x, "q".repeat(80));
        x.undo();
        Check.state("37 the text is full still", x, () -> x.append('q'));
        Check.due("13 its length", x.clearText(), 80);
        x.poke(0, 1);
        x.append('z');
        x.undo();
        Check.due("13 the byte that was appended stays", x.clearText(), 1);
        Check.write(x, "z:b;");
        x.poke(0, 1);
        x.clearText();
        x.undo();
        Check.due("13 what was emptied stays empty", x.clearText(), 0);
    }

    private static void undone(String what, RecordLayouts x, Callable<?> call) {
        long before = x.digest();
        Object got = Check.answer(call);
        Check.due(what + " is refused: " + got, got instanceof String ? 1 : 0, 0);
        Check.due(what + " changes something", x.digest() == before ? 1 : 0, 0);
        x.undo();
        Check.due(what + " undone", x.digest(), before - 1);
        // A state is saved in its place, so that there are as many as before.
        x.poke(1000, x.memory(1000));
        Check.due("38 as before", x.digest(), before);
    }

    /** All calls on a full object, each one undone. */
    private static void undoOfEachCall() {
        RecordLayouts x = Bounds.records(8, "a:u8;b:%3;c:i32;", "c:i64;a:u16;", "-", "a:b;");
        x.newTable(0, 5, 1, 0);
        x.newTable(1, 2, 0, 1);
        for (int row = 0; row < 5; row++) {
            x.set(0, row, 0, 9 - row);
            x.set(0, row, 2, -row);
        }
        x.removeTable(0);
        x.newTable(0, 6, 2, 1);
        x.fill(0, 0, 100, -3);
        x.fill(0, 1, 1, 3);
        undone("2 newRecord", x, () -> x.newRecord(1));
        undone("3 addField", x, () -> x.addField(2, 'y', 101, 4));
        undone("14 define", x, () -> {
            x.append('k');
            x.append(':');
            x.append('b');
            x.append(';');
            int record = x.define(2);
            x.clearText();
            return record;
        });
        undone("15 newTable", x, () -> x.newTable(0, 12, 0, 0));
        undone("16 removeTable", x, () -> x.removeTable(0));
        undone("21 set", x, () -> x.set(0, 5, 2, 77));
        undone("23 poke", x, () -> x.poke(1023, 77));
        undone("25 convert", x, () -> x.convert(0, 0, 0));
        undone("26 migrate", x, () -> x.migrate(0, 1, 8));
        undone("28 sort", x, () -> x.sort(0, 0, false));
        undone("29 fill", x, () -> x.fill(1, 0, 5, 5));
        undone("30 copyRow", x, () -> x.copyRow(0, 0, 5));
        x.removeTable(0);
        undone("27 compact", x, () -> x.compact());
    }

    /** A record that was undone and made anew in another way comes back by undo as it was then. */
    private static void undoOfOverwrittenRecords() {
        RecordLayouts x = new RecordLayouts();
        x.newRecord(8);
        x.addField(0, 'a', 6, 2);
        x.newRecord(4);
        x.addField(1, 'b', 100, 1);
        x.undo();
        x.undo();
        x.newRecord(1);
        x.addField(1, 'z', 21, 1);
        int[] now = {1, 1, 2, 1, 0, 1, 0};
        for (int what = 0; what <= 6; what++) {
            Check.due("5 the new record 1, what " + what, x.recordInfo(1, what), now[what]);
        }
        x.undo();
        Check.due("5 without its field", x.recordInfo(1, 1), 0);
        Check.due("5 without its leaf", x.recordInfo(1, 5), 0);
        Check.due("5 with its pack", x.recordInfo(1, 0), 1);
        x.undo();
        Check.due("4 without it", x.records(), 1);
        Check.due("5 record 0", x.recordInfo(0, 2), 16);
        x.undo();
        Check.due("5 record 0 without its field", x.recordInfo(0, 2), 0);
        Check.due("10 and its best size", x.bestSize(0), 0);
    }

    /** A table's number that was used again. */
    private static void undoOfOverwrittenTables() {
        RecordLayouts x = Bounds.records(8, "a:i64;", "b:u8;");
        x.newTable(0, 12, 8, 1);
        x.fill(0, 0, 1, 1);
        x.removeTable(0);
        x.newTable(1, 3, 0, 0);
        Check.due("22 its bytes became 0", x.memory(7), 0);
        x.undo();
        Check.due("17 no table", x.tables(), 0);
        Check.due("22 its bytes are back", x.memory(7), 1);
        x.undo();
        int[] want = {0, 12, 8, 1, 0, 128};
        for (int what = 0; what <= 5; what++) {
            Check.due("18 what " + what, x.tableInfo(0, what), want[what]);
        }
        Check.due("33 its values", x.sum(0, 0), 78);
        Check.due("5 record 0 is in use", x.recordInfo(0, 6), 1);
        Check.due("5 record 1 is not", x.recordInfo(1, 6), 0);
    }

    // ---- digest

    private static long hash(long... values) {
        long h = 1733;
        for (long value : values) {
            h = 31 * h + value;
        }
        return h;
    }

    private static void digestOfANewObject() {
        Check.due("38 0 records, no table, 1024 bytes, no text, no state", new RecordLayouts().digest(),
                hash(new long[1 + 1 + 1024 + 1 + 1]));
    }

    /** "all bytes of the memory, as 0 to 255" */
    private static void digestOfBytes() {
        for (int address : new int[] {0, 1, 512, 1022, 1023}) {
            for (int value : new int[] {1, 127, 128, 255}) {
                RecordLayouts x = new RecordLayouts();
                x.poke(address, value);
                long[] values = new long[1028];
                values[2 + address] = value;
                values[1027] = 1;
                Check.due("38 byte " + value + " at " + address, x.digest(), hash(values));
            }
        }
    }

    /** "the length of the text; the number of saved states" */
    private static void digestOfTextAndStates() {
        for (int length = 0; length <= 80; length++) {
            for (int saved = 0; saved <= 6; saved += length % 40 == 0 ? 1 : 6) {
                RecordLayouts x = new RecordLayouts();
                Check.write(x, "\u007f".repeat(length));
                for (int i = 0; i < saved; i++) {
                    x.compact();
                }
                long[] values = new long[1028];
                values[1026] = length;
                values[1027] = Math.min(saved, 4);
                Check.due("38 " + length + " bytes of text and " + saved + " states", x.digest(), hash(values));
            }
        }
    }

    /** Six records, of which one has no fields, and three tables of 1024 bytes in all. */
    private static void digestOfAFullObject() {
        RecordLayouts x = Bounds.records(8, "-", "a:b;b:b;c:b;d:b;e:b;f:b;g:b;z:%16;", "a:i64[4];b:i64[4];",
                "k:%9;l:%7;m:%1;",
            "a:#2;b:#2;", "a:#1[4];b:#1;");
        x.newTable(4, 6, 1, 0);
        x.newTable(2, 3, 0, 1);
        x.newTable(2, 1, 1, 1);
        Check.due("24 nothing is free", x.freeBytes(false), 0);
        java.util.ArrayList<Long> values = new java.util.ArrayList<>();
        values.add((long) x.records());
        for (int r = 0; r < 6; r++) {
            for (int what = 0; what <= 5; what++) {
                values.add((long) x.recordInfo(r, what));
            }
            for (int f = 0; f < x.recordInfo(r, 1); f++) {
                for (int what = 0; what <= 4; what++) {
                    values.add((long) x.fieldInfo(r, f, what));
                }
            }
        }
        Check.due("4 records", values.get(0), (Object) 6L);
        values.add((long) x.tables());
        for (int table = 0; table < 3; table++) {
            for (int what = 0; what <= 5; what++) {
                values.add((long) x.tableInfo(table, what));
            }
        }
        long[] all = new long[values.size() + 1026];
        for (int i = 0; i < values.size(); i++) {
            all[i] = values.get(i);
        }
        all[all.length - 1] = 4;
        Check.due("38 a full object", x.digest(), hash(all));
    }

    private static void digestChangesNothing() {
        RecordLayouts x = small(2);
        long first = x.digest();
        for (int i = 0; i < 5; i++) {
            Check.due("38 again", x.digest(), first);
        }
    }

    // ---- the whole

    /** "NONE = -1" */
    private static void noneIsMinusOne() {
        Check.due("NONE", RecordLayouts.NONE, -1);
    }

    /** "An object is used for at most 512 calls after it has been made": the 512th one is answered as all others. */
    private static void fiveHundredAndTwelveCalls() {
        RecordLayouts x = new RecordLayouts();
        for (int call = 1; call <= 512; call++) {
            Check.due("23 call " + call, x.poke(3, call % 256), (call - 1) % 256);
        }
        RecordLayouts y = new RecordLayouts();
        for (int call = 1; call <= 512; call++) {
            int at = call % 81;
            Check.due("12 call " + call, at == 0 ? y.clearText() : y.append('a'), at == 0 ? 80 : at);
        }
        RecordLayouts z = new RecordLayouts();
        for (int call = 1; call <= 512; call++) {
            Check.due("2 call " + call, call % 2 == 1 ? z.newRecord(8) : z.undo(), 0);
        }
        RecordLayouts u = Bounds.table("a:%9;b:i8;c:i64;d:%7;e:i32;f:u8;g:i16;h:%3;", 3, 0, 0);
        // Some 60 calls were needed for the definition. a 0, b 2, d 4, f 6, c 8, e 16, g 20, h 22.
        int[] order = {0, 1, 3, 5, 2, 4, 6, 7};
        for (int call = 1; call <= 440; call++) {
            boolean size = call % 9 == 8;
            Check.due("11 call " + call, size ? u.bestSize(0) : u.bestOrder(0, call % 9), size ? 24 : order[call % 9]);
        }
    }
}
