/** One test for each sentence of promises 31 to 36 that names a boundary case. */
public final class BoundsQuestionsTest {
    public static void main(String[] args) {
        relations();
        relationsAtTheEdges();
        relationsOfAllRows();
        findRowFrom();
        findRowBeyondTheType();
        sumOverflows();
        sumOfTheGreatest();
        bitsWithoutALeaf();
        emptySet();
        sizesOfALine();
        fromGreaterThanTo();
        oneRow();
        linesCountAddresses();
        leafInTwoLines();
        lineIsTouchedByOneByte();
        linesWithGaps();
        bothBytesOfAUnit();
        lastLineOfTheMemory();
        runsThatMeet();
        runsFromAllAddresses();
        runsWithAGapOfOneByte();
        runsOfLeavesInAnyOrder();
        runsOfAllLayouts();
        runsAtTheEndOfTheMemory();
        bestLayoutOfNone();
        bestLayoutIsTheLowest();
        bestLayoutAtBaseZero();
        bestLayoutAfterAMove();
        bestLayoutOfOneRow();
        bestLayoutBeyondTheMemory();
        bestLayoutOfEach();
        Check.finish();
    }

    private static RecordLayouts values(int type, long... values) {
        RecordLayouts x = Bounds.records(8, "-");
        x.addField(0, 'a', type, 1);
        x.newTable(0, values.length, 3, 1);
        for (int row = 0; row < values.length; row++) {
            x.set(0, row, 0, values[row]);
        }
        return x;
    }

    // ---- count, findRow, sum

    /** "relation: 0 less, 1 equal, 2 greater" */
    private static void relations() {
        Bounds.range("31 relation", IllegalArgumentException.class, r -> r >= 0 && r <= 2,
                () -> Bounds.table("a:b;", 2, 0, 0), (x, r) -> x.count(0, 0, r, 0));
        long[] all = {-3, 5, 5, 7, 5, 9};
        for (long value = -4; value <= 10; value++) {
            int less = 0;
            int equal = 0;
            for (long one : all) {
                less += one < value ? 1 : 0;
                equal += one == value ? 1 : 0;
            }
            RecordLayouts x = values(0, all);
            Check.due("31 less than " + value, x.count(0, 0, 0, value), less);
            Check.due("31 equal to " + value, x.count(0, 0, 1, value), equal);
            Check.due("31 greater than " + value, x.count(0, 0, 2, value), 6 - less - equal);
        }
    }

    /** Values of the type and of a long that are far apart. */
    private static void relationsAtTheEdges() {
        long[] edges = {Long.MIN_VALUE, Long.MIN_VALUE + 1, -1, 0, 1, Long.MAX_VALUE - 1, Long.MAX_VALUE};
        for (int i = 0; i < edges.length; i++) {
            RecordLayouts x = values(6, edges);
            Check.due("31 less than edge " + i, x.count(0, 0, 0, edges[i]), i);
            Check.due("31 equal to edge " + i, x.count(0, 0, 1, edges[i]), 1);
            Check.due("31 greater than edge " + i, x.count(0, 0, 2, edges[i]), 6 - i);
        }
        RecordLayouts x = values(5, 0xFFFFFFFFL, 0x80000000L, 0);
        Check.due("31 u32 is not negative", x.count(0, 0, 0, 0), 0);
        Check.due("31 u32 greater than an int", x.count(0, 0, 2, Integer.MAX_VALUE), 2);
        Check.due("31 u32 is never -1", x.count(0, 0, 1, -1), 0);
        Check.due("31 only the whole value is equal", x.count(0, 0, 1, 0x1FFFFFFFFL), 0);
    }

    /** No row, or every row. */
    private static void relationsOfAllRows() {
        for (int rows = 1; rows <= 12; rows++) {
            RecordLayouts x = values(4, new long[rows]);
            Check.due("31 all are equal", x.count(0, 0, 1, 0), rows);
            Check.due("31 none is less", x.count(0, 0, 0, 0), 0);
            Check.due("31 none is greater", x.count(0, 0, 2, 0), 0);
            Check.due("31 all are less", x.count(0, 0, 0, 1), rows);
            Check.due("31 all are greater", x.count(0, 0, 2, -1), rows);
        }
    }

    /** "Returns the first row from this one on in which the leaf has this value; NONE if there is none." */
    private static void findRowFrom() {
        long[] all = {4, 7, 4, 4, 7, 1};
        for (int from = 0; from < 6; from++) {
            for (long value : new long[] {4, 7, 1, 0}) {
                int want = -1;
                for (int row = 5; row >= from; row--) {
                    want = all[row] == value ? row : want;
                }
                Check.due("32 " + value + " from " + from, values(2, all).findRow(0, 0, value, from), want);
            }
        }
        RecordLayouts x = values(0, new long[12]);
        for (int from = 0; from < 12; from++) {
            Check.due("32 the row itself", x.findRow(0, 0, 0, from), from);
        }
        Check.index("32 no row 12", x, () -> x.findRow(0, 0, 0, 12));
        Check.index("32 no row -1, even for a value that is not there", x, () -> x.findRow(0, 0, 1, -1));
    }

    /** A value that the type does not have is not found. */
    private static void findRowBeyondTheType() {
        RecordLayouts x = values(0, -1, -128, 127);
        Check.due("32 -1", x.findRow(0, 0, -1, 0), 0);
        Check.due("32 255", x.findRow(0, 0, 255, 0), -1);
        Check.due("32 128", x.findRow(0, 0, 128, 0), -1);
        Check.due("32 -129", x.findRow(0, 0, -129, 0), -1);
        Check.due("32 383", x.findRow(0, 0, 383, 0), -1);
        RecordLayouts y = values(22, 3, 0);
        Check.due("32 3 of 2 bits", y.findRow(0, 0, 3, 0), 0);
        Check.due("32 7 of 2 bits", y.findRow(0, 0, 7, 0), -1);
        RecordLayouts z = Bounds.table("a:b;", 2, 0, 0);
        z.poke(1, 2);
        Check.due("32 a b is 1", z.findRow(0, 0, 1, 0), 1);
        Check.due("32 and never 2", z.findRow(0, 0, 2, 0), -1);
    }

    /** "Returns the sum, with the overflow of long arithmetic ignored." */
    private static void sumOverflows() {
        Check.due("33 the greatest and 1", values(6, Long.MAX_VALUE, 1).sum(0, 0), Long.MIN_VALUE);
        Check.due("33 the least and -1", values(6, Long.MIN_VALUE, -1).sum(0, 0), Long.MAX_VALUE);
        Check.due("33 twice the least", values(6, Long.MIN_VALUE, Long.MIN_VALUE).sum(0, 0), 0);
        Check.due("33 twice the greatest", values(6, Long.MAX_VALUE, Long.MAX_VALUE).sum(0, 0), -2);
        Check.due("33 one row", values(6, Long.MIN_VALUE).sum(0, 0), Long.MIN_VALUE);
    }

    private static void sumOfTheGreatest() {
        long[] ones = new long[12];
        java.util.Arrays.fill(ones, -1);
        long[] want = {-1, 255, -1, 65535, -1, 0xFFFFFFFFL, -1, 1};
        for (int type = 0; type <= 7; type++) {
            Check.due("33 twelve times -1 as type " + type, values(type, ones).sum(0, 0), 12 * want[type]);
        }
        for (int width = 1; width <= 16; width++) {
            Check.due("33 as " + width + " bits", values(20 + width, ones).sum(0, 0), 12 * ((1L << width) - 1));
        }
    }

    // ---- scans

    /** "bits without a leaf are ignored" */
    private static void bitsWithoutALeaf() {
        RecordLayouts x = Bounds.table("a:i32;b:i32;", 12, 0, 0);
        for (int bit = 0; bit < 64; bit++) {
            long set = 1L << bit;
            Check.due("34 bit " + bit, x.lines(0, set, 0, 11, 16), bit < 2 ? 6 : 0);
            Check.due("35 bit " + bit, x.runs(0, set, 0, 11), bit < 2 ? 12 : 0);
            Check.due("34 bit " + bit + " beside 0", x.lines(0, set | 1, 0, 0, 16), 1);
            Check.due("36 bit " + bit, x.bestLayout(0, set, 16), bit < 2 ? 1 : 0);
        }
        RecordLayouts y = Bounds.records(8, "a:b[4];b:%5;", "a:#0[4];b:#0[4];");
        y.newTable(1, 1, 1, 0);
        for (int bit = 0; bit < 64; bit++) {
            Check.due("34 bit " + bit + " of 40 leaves", y.lines(0, 1L << bit, 0, 0, 16), bit < 40 ? 1 : 0);
            Check.due("35 bit " + bit + " of 40 leaves", y.runs(0, 1L << bit, 0, 0), bit < 40 ? 1 : 0);
        }
        Check.due("35 all bits", y.runs(0, -1, 0, 0), y.runs(0, (1L << 40) - 1, 0, 0));
        Check.due("34 only bits without a leaf", y.lines(0, -1L << 40, 0, 0, 16), 0);
    }

    private static void emptySet() {
        for (int layout = 0; layout <= 8; layout++) {
            RecordLayouts x = Bounds.table("a:i32;b:i32;", 12, layout, 0);
            for (int line = 16; line <= 64; line *= 2) {
                Check.due("34 no leaf", x.lines(0, 0, 0, 11, line), 0);
            }
            Check.due("35 no leaf", x.runs(0, 0, 0, 11), 0);
        }
    }

    /** "the size of a line, 16, 32 or 64" */
    private static void sizesOfALine() {
        Bounds.range("34 line", IllegalArgumentException.class, n -> n == 16 || n == 32 || n == 64,
                () -> Bounds.table("a:b;", 2, 0, 0), (x, n) -> x.lines(0, 1, 0, 1, n));
        Bounds.range("34 line of no leaf", IllegalArgumentException.class, n -> n == 16 || n == 32 || n == 64,
                () -> Bounds.table("a:b;", 2, 0, 0), (x, n) -> x.lines(0, 0, 0, 1, n));
        Bounds.range("36 line", IllegalArgumentException.class, n -> n == 16 || n == 32 || n == 64,
                () -> Bounds.table("a:b;", 2, 0, 0), (x, n) -> x.bestLayout(0, 1, n));
    }

    /** "Throws IllegalArgumentException if from is greater than to", but not if they are equal. */
    private static void fromGreaterThanTo() {
        RecordLayouts x = Bounds.table("a:b;", 4, 0, 0);
        for (int from = -1; from <= 4; from++) {
            for (int to = -1; to <= 4; to++) {
                int first = from;
                int last = to;
                boolean rows = from >= 0 && from < 4 && to >= 0 && to < 4;
                Object want = !rows ? "throws.IndexOutOfBoundsException"
                        : from > to ? "throws.IllegalArgumentException" : (Object) 1L;
                Check.due("34 from " + from + " to " + to, Check.answer(() -> x.lines(0, 1, first, last, 16)), want);
                Check.due("35 from " + from + " to " + to, Check.answer(() -> x.runs(0, 1, first, last)), want);
                Check.due("34 without a leaf, from " + from + " to " + to,
                        Check.answer(() -> x.lines(0, 0, first, last, 16)), want.equals(1L) ? 0L : want);
                Check.due("34 from " + from + " to " + to + ", line 17",
                        Check.answer(() -> x.lines(0, 1, first, last, 17)),
                        rows ? "throws.IllegalArgumentException" : want);
            }
        }
    }

    /** "from: the first row", "to: the last row": both are read. */
    private static void oneRow() {
        for (int row = 0; row < 12; row++) {
            RecordLayouts x = Bounds.records(8, "a:i64[2];");
            x.newTable(0, 12, 0, 0);
            Check.due("34 one row", x.lines(0, 3, row, row, 16), 1);
            Check.due("34 up to this row", x.lines(0, 3, 0, row, 16), row + 1);
            Check.due("34 from this row on", x.lines(0, 3, row, 11, 16), 12 - row);
            Check.due("35 the first leaf up to this row", x.runs(0, 1, 0, row), row + 1);
            Check.due("35 the first leaf from this row on", x.runs(0, 1, row, 11), 12 - row);
            Check.due("35 both leaves", x.runs(0, 3, 0, row), 1);
        }
    }

    /** "line k consists of the addresses from k * line on": addresses, not distances from the base. */
    private static void linesCountAddresses() {
        for (int before = 1; before <= 8; before++) {
            RecordLayouts x = Bounds.records(8, "a:i64[2];", "a:i64[2];b:i64[2];");
            x.newTable(0, before, 0, 0);
            x.newTable(1, 2, 0, 0);
            int base = 16 * before;
            Check.due("18 base", x.tableInfo(1, 4), base);
            for (int line = 16; line <= 64; line *= 2) {
                int want = (base + 63) / line - base / line + 1;
                Check.due("34 64 bytes from " + base + " in lines of " + line, x.lines(1, -1, 0, 1, line), want);
                want = (base + 31) / line - base / line + 1;
                Check.due("34 32 bytes from " + base + " in lines of " + line, x.lines(1, -1, 0, 0, line), want);
            }
        }
    }

    private static void leafInTwoLines() {
        // With pack 1 the i64 begins at 1 to 15 and reaches into the next line from 9 on.
        for (int before = 1; before <= 15; before++) {
            RecordLayouts x = Bounds.records(1, "-");
            for (int i = 0; i < before; i += 4) {
                x.addField(0, 'a' + i, 1, Math.min(4, before - i));
            }
            x.addField(0, 'z', 6, 1);
            x.newTable(0, 1, 0, 0);
            Check.due("19 address", x.address(0, 0, before), before);
            Check.due("34 an i64 from " + before, x.lines(0, 1L << before, 0, 0, 16), before > 8 ? 2 : 1);
            Check.due("34 in lines of 32", x.lines(0, 1L << before, 0, 0, 32), 1);
            Check.due("35 one run", x.runs(0, 1L << before, 0, 0), 1);
            Check.due("35 with the byte before it", x.runs(0, 3L << before - 1, 0, 0), 1);
        }
    }

    /** "it is touched if at least one of its bytes belongs to one of the leaves in one of the rows" */
    private static void lineIsTouchedByOneByte() {
        RecordLayouts x = Bounds.records(1, "a:u8[4];b:u8[4];c:u8[4];d:u8[4];", "a:#0;b:#0;c:u8;");
        x.newTable(1, 3, 0, 0);
        // 33 bytes a row: leaf k of row i at 33 * i + k.
        for (int leaf = 0; leaf < 33; leaf++) {
            for (int line = 16; line <= 64; line *= 2) {
                java.util.TreeSet<Integer> want = new java.util.TreeSet<>();
                for (int row = 0; row < 3; row++) {
                    want.add((33 * row + leaf) / line);
                }
                Check.due("34 leaf " + leaf + " in lines of " + line, x.lines(0, 1L << leaf, 0, 2, line), want.size());
            }
        }
    }

    /** Lines between that are not touched are not counted, and one that is touched twice is counted once. */
    private static void linesWithGaps() {
        RecordLayouts x = Bounds.records(8, "a:i64[4];b:i64[4];");
        x.newTable(0, 12, 0, 0);
        Check.due("34 the first leaf of rows of 64 bytes", x.lines(0, 1, 0, 11, 16), 12);
        Check.due("34 the first and the last leaf", x.lines(0, 0x81, 0, 11, 16), 24);
        Check.due("34 the first two leaves", x.lines(0, 3, 0, 11, 16), 12);
        Check.due("34 lines of 32", x.lines(0, 0x81, 0, 11, 32), 24);
        Check.due("34 lines of 64", x.lines(0, 0x81, 0, 11, 64), 12);
        Check.due("34 all", x.lines(0, -1, 0, 11, 16), 48);
    }

    /** "(both bytes of a unit belong to its bit fields)" */
    private static void bothBytesOfAUnit() {
        for (int order = 0; order <= 1; order++) {
            for (int width = 1; width <= 8; width++) {
                // The unit has the bytes 15 and 16.
                RecordLayouts x = Bounds.records(1, "-");
                x.addField(0, 'a', 6, 1);
                x.addField(0, 'b', 5, 1);
                x.addField(0, 'c', 1, 3);
                x.addField(0, 'd', 20 + width, 1);
                x.addField(0, 'e', 20 + 16 - width, 1);
                x.newTable(0, 1, 0, order);
                Check.due("19 the unit", x.address(0, 0, 5), 15);
                Check.due("34 its lower bits", x.lines(0, 1 << 5, 0, 0, 16), 2);
                Check.due("34 its upper bits", x.lines(0, 1 << 6, 0, 0, 16), 2);
                Check.due("35 the byte before and the lower bits", x.runs(0, 3 << 4, 0, 0), 1);
                Check.due("35 the byte before and the upper bits", x.runs(0, 5 << 4, 0, 0), 1);
                Check.due("35 both bit fields", x.runs(0, 3 << 5, 0, 0), 1);
            }
        }
    }

    private static void lastLineOfTheMemory() {
        RecordLayouts x = Bounds.records(8, "a:i64[4];b:i64[4];", "a:#0[2];");
        x.newTable(1, 8, 0, 0);
        Check.due("18 all of the memory", x.tableInfo(0, 5), 1024);
        Check.due("34 all lines of 16", x.lines(0, -1, 0, 7, 16), 64);
        Check.due("34 all lines of 32", x.lines(0, -1, 0, 7, 32), 32);
        Check.due("34 all lines of 64", x.lines(0, -1, 0, 7, 64), 16);
        Check.due("34 the last one", x.lines(0, 1 << 15, 7, 7, 16), 1);
        Check.due("35 all of the memory is one run", x.runs(0, -1, 0, 7), 1);
        Check.due("35 the last leaf of all rows", x.runs(0, 1 << 15, 0, 7), 8);
        Check.due("35 the last and the first leaf of all rows", x.runs(0, 1 << 15 | 1, 0, 7), 9);
    }

    /** "the longest sequences of addresses that directly follow one another" */
    private static void runsThatMeet() {
        RecordLayouts x = Bounds.table("a:u8;b:u8;c:u8;d:u8;", 12, 0, 0);
        for (int set = 0; set < 16; set++) {
            // A row's runs begin where a leaf is in the set and the one before it, in this row or the last one, is not.
            int inside = Integer.bitCount(set & ~(set << 1));
            boolean joined = (set & 1) == 1 && (set & 8) == 8;
            Check.due("35 leaves " + set, x.runs(0, set, 0, 11), 12 * inside - (joined ? 11 : 0));
            Check.due("35 leaves " + set + " of one row", x.runs(0, set, 6, 6), inside);
        }
    }

    /** Runs of bytes that begin and end at all addresses, those around multiples of 64 among them. */
    private static void runsFromAllAddresses() {
        long[] sets = {1, 0x8000, 0x8001, 0x4000, 0x4001, 0xC000, 0xC001, 3, 0x8003, 0x4002, 0xFFFF, 0x7FFE, 0x5555,
                0xAAAA};
        for (int rows = 1; rows <= 12; rows++) {
            RecordLayouts x = Bounds.records(1, "a:u8[4];b:u8[4];c:u8[4];d:u8[4];");
            x.newTable(0, rows, 0, 0);
            for (long set : sets) {
                // 16 bytes a row: leaf k of row i has the address 16 * i + k.
                boolean before = false;
                int want = 0;
                for (int address = 0; address < 16 * rows; address++) {
                    boolean now = (set >> address % 16 & 1) == 1;
                    want += now && !before ? 1 : 0;
                    before = now;
                }
                Check.due("35 leaves " + set + " of " + rows + " rows", x.runs(0, set, 0, rows - 1), want);
            }
        }
        for (int row = 0; row < 11; row++) {
            RecordLayouts x = Bounds.records(1, "a:u8[4];b:u8[4];c:u8[4];d:u8[4];");
            x.newTable(0, 12, 0, 0);
            Check.due("35 the last byte of a row and the first one of the next", x.runs(0, 0x8001, row, row + 1), 3);
            Check.due("35 with a gap of one byte", x.runs(0, 0x4001, row, row + 1), 4);
            Check.due("35 with a gap of one byte behind", x.runs(0, 0x8002, row, row + 1), 4);
            Check.due("35 two bytes and two bytes", x.runs(0, 0xC003, row, row + 1), 3);
        }
    }

    private static void runsWithAGapOfOneByte() {
        RecordLayouts x = Bounds.table("a:u8;b:u16;c:u8;d:u8[2];", 4, 0, 0);
        // a 0, b 2 to 4, c 4, d 5 and 6; 8 bytes a row.
        Check.due("18 bytes", x.tableInfo(0, 5), 32);
        Check.due("35 all: one gap of a byte inside, one at the end", x.runs(0, -1, 0, 3), 8);
        Check.due("35 the last byte before the gap and the first one behind it", x.runs(0, 17, 0, 3), 8);
        Check.due("35 without a", x.runs(0, 30, 0, 3), 4);
    }

    /** By columns the last row of a leaf may meet the first row of the next one. */
    private static void runsOfLeavesInAnyOrder() {
        RecordLayouts x = Bounds.table("a:u8;b:u8;c:u8;", 5, 1, 0);
        Check.due("35 a and b", x.runs(0, 3, 0, 4), 1);
        Check.due("35 a and c", x.runs(0, 5, 0, 4), 2);
        Check.due("35 a and b without the last row", x.runs(0, 3, 0, 3), 2);
        Check.due("35 a and b without the first row", x.runs(0, 3, 1, 4), 2);
        Check.due("35 all without the first row", x.runs(0, 7, 1, 4), 3);
        Check.due("35 all", x.runs(0, 7, 0, 4), 1);
    }

    private static void runsOfAllLayouts() {
        for (int layout = 2; layout <= 8; layout++) {
            RecordLayouts x = Bounds.table("a:i64;b:i64;", 12, layout, 0);
            int blocks = (12 + layout - 1) / layout;
            Check.due("35 a in blocks of " + layout, x.runs(0, 1, 0, 11), blocks);
            Check.due("35 b in blocks of " + layout, x.runs(0, 2, 0, 11), blocks);
            // The last block has room for all its rows, so that a and b do not meet in it unless it is full.
            boolean full = 12 % layout == 0;
            Check.due("35 both in blocks of " + layout, x.runs(0, 3, 0, 11), full ? 1 : 2);
            Check.due("35 both in the first block", x.runs(0, 3, 0, layout - 1), 1);
            Check.due("35 both, one row more", x.runs(0, 3, 0, layout), 2);
        }
    }

    private static void runsAtTheEndOfTheMemory() {
        RecordLayouts x = Bounds.records(8, "a:i64[4];b:i64[4];", "a:#0;b:#0;", "a:u8;");
        x.newTable(1, 7, 0, 0);
        x.newTable(0, 1, 0, 0);
        x.newTable(2, 12, 0, 0);
        Check.due("18 at 960", x.tableInfo(2, 4), 960);
        Check.due("35 at 960", x.runs(2, 1, 0, 11), 1);
        x.removeTable(2);
        x.newTable(0, 1, 0, 0);
        Check.due("18 up to 1024", x.tableInfo(2, 4) + x.tableInfo(2, 5), 1024);
        Check.due("35 the last 8 bytes", x.runs(2, 128, 0, 0), 1);
        Check.due("35 the first and the last 8 bytes", x.runs(2, 129, 0, 0), 2);
        Check.due("34 the last line", x.lines(2, 128, 0, 0, 64), 1);
    }

    // ---- bestLayout

    /** Without a leaf every layout touches no line, and 0 is the lowest one. */
    private static void bestLayoutOfNone() {
        for (int layout = 0; layout <= 8; layout++) {
            RecordLayouts x = Bounds.table("a:i64;b:u8;", 12, layout, 0);
            Check.due("36 no leaf", x.bestLayout(0, 0, 16), 0);
            Check.due("36 only bits without a leaf", x.bestLayout(0, -4, 64), 0);
        }
    }

    /** "the lowest one of several" */
    private static void bestLayoutIsTheLowest() {
        for (int layout = 0; layout <= 8; layout++) {
            RecordLayouts x = Bounds.table("a:i64;", 12, layout, 0);
            Check.due("36 all layouts are alike", x.bestLayout(0, 1, 16), 0);
            RecordLayouts y = Bounds.table("a:i64;b:i64;", 12, layout, 0);
            Check.due("36 one of two leaves", y.bestLayout(0, 1, 16), 1);
            Check.due("36 both leaves", y.bestLayout(0, 3, 16), 0);
            // By columns, and in blocks of 4 or more rows, too, all four values lie in one line.
            RecordLayouts z = Bounds.table("a:i32;b:i32;", 4, layout, 0);
            Check.due("36 four rows", z.bestLayout(0, 1, 16), 1);
            Check.due("36 in one line by rows, too", z.bestLayout(0, 1, 32), 0);
        }
    }

    /** "for which a scan of all rows of a table with base 0 touches the fewest lines" */
    private static void bestLayoutAtBaseZero() {
        for (int before = 1; before <= 4; before++) {
            RecordLayouts x = Bounds.records(8, "a:i64[2];", "a:u8;b:i16;c:i64;");
            x.newTable(0, before, 0, 0);
            x.newTable(1, 7, 5, 1);
            for (int line = 16; line <= 64; line *= 2) {
                for (int set = 0; set < 8; set++) {
                    Check.due("36 leaves " + set + " behind " + before, x.bestLayout(1, set, line),
                            fewest("a:u8;b:i16;c:i64;", 7, set, line));
                }
            }
        }
    }

    /** Neither the place of the table nor that of one which was moved before counts. */
    private static void bestLayoutAfterAMove() {
        String definition = "a:u8;b:i16;c:i64;";
        for (int moves = 0; moves <= 3; moves++) {
            RecordLayouts x = Bounds.records(8, "a:i64[2];", definition);
            x.newTable(1, 7, 0, 0);
            x.newTable(0, 1, 0, 0);
            for (int i = 0; i < moves; i++) {
                x.convert(1, i, 1);
            }
            for (int line = 16; line <= 64; line *= 2) {
                for (int set = 0; set < 8; set++) {
                    Check.due("36 leaves " + set + " after " + moves, x.bestLayout(0, set, line),
                            fewest(definition, 7, set, line));
                }
            }
            x.convert(0, 3, 1);
            for (int set = 0; set < 8; set++) {
                Check.due("36 leaves " + set + ", itself moved", x.bestLayout(0, set, 32),
                        fewest(definition, 7, set, 32));
            }
        }
    }

    /** Makes a table with each layout in a new object, where its base is 0. */
    private static int fewest(String definition, int rows, long set, int line) {
        int best = 0;
        int fewest = Integer.MAX_VALUE;
        for (int layout = 0; layout <= 8; layout++) {
            int lines = Bounds.table(definition, rows, layout, 0).lines(0, set, 0, rows - 1, line);
            if (lines < fewest) {
                fewest = lines;
                best = layout;
            }
        }
        return best;
    }

    private static void bestLayoutOfOneRow() {
        RecordLayouts x = Bounds.table("a:i64;b:u8;c:i64;", 1, 8, 0);
        // By rows a 0, b 8, c 16; by columns the same; in blocks of 2 a 0 to 16, b 16, c 24.
        Check.due("36 a", x.bestLayout(0, 1, 16), 0);
        Check.due("36 b", x.bestLayout(0, 2, 16), 0);
        Check.due("36 a and c", x.bestLayout(0, 5, 16), 0);
        Check.due("36 b and c", x.bestLayout(0, 6, 16), 2);
        Check.due("36 b and c in one line of 32", x.bestLayout(0, 6, 32), 0);
    }

    /** A layout counts even if the table would have more bytes than the memory with it. */
    private static void bestLayoutBeyondTheMemory() {
        RecordLayouts x = Bounds.records(8, "a:i64[4];b:i64[4];", "a:#0[4];");
        x.newTable(1, 1, 0, 0);
        // By rows leaf 31 is at 248; in blocks of 8 leaf k is at 64 * k, up to 1984, and still one line.
        for (int leaf = 0; leaf < 32; leaf++) {
            Check.due("36 leaf " + leaf, x.bestLayout(0, 1L << leaf, 16), 0);
        }
        Check.due("36 two that share no line", x.bestLayout(0, 6, 16), 0);
        Check.due("36 all", x.bestLayout(0, -1, 16), 0);
        RecordLayouts y = Bounds.records(8, "a:u8;b:i64;", "a:#0[4];b:#0[4];", "a:#1;b:#1;");
        y.newTable(2, 4, 1, 0);
        Check.state("25 by rows it has 1024 bytes", y, () -> y.convert(0, 0, 0));
        Check.due("36 all: by rows 64 lines, by columns of 4 rows less", y.bestLayout(0, -1, 16), 1);
    }

    /** Compares with tables that are made, one for each layout. */
    private static void bestLayoutOfEach() {
        String[] definitions = {"a:u8;b:i32;c:i64;", "a:i64;b:u8;", "a:%3;b:%13;c:u8;d:u16;", "a:u8[3];b:i32;"};
        boolean[] seen = new boolean[9];
        for (String definition : definitions) {
            for (int rows = 1; rows <= 12; rows++) {
                for (int set = 0; set < 16; set++) {
                    for (int line = 16; line <= 64; line *= 2) {
                        int want = fewest(definition, rows, set, line);
                        seen[want] = true;
                        String what = set + " of " + rows + " rows of " + definition + " in lines of " + line;
                        Check.due("36 leaves " + what,
                                Bounds.table(definition, rows, 0, 0).bestLayout(0, set, line), want);
                    }
                }
            }
        }
        Check.due("36 other layouts than 0 and 1 are the best", seen[2] || seen[3] || seen[4] ? 1 : 0, 1);
    }
}
