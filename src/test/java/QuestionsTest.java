/** Promises 31 to 36: what is asked about the values of tables and about scans. */
public final class QuestionsTest {
    public static void main(String[] args) {
        count();
        findRow();
        sum();
        linesByRows();
        linesByColumns();
        linesRefuse();
        runs();
        runsRefuse();
        bestLayout();
        bestLayoutBeyondMemory();
        Check.finish();
    }

    private static RecordLayouts keys() {
        RecordLayouts x = new RecordLayouts();
        Check.record(x, 8, "a:i8;b:i64;c:b;");
        x.newTable(0, 6, 4, 1);
        long[] keys = {5, -3, 5, 0, 127, -128};
        for (int row = 0; row < 6; row++) {
            x.set(0, row, 0, keys[row]);
            x.set(0, row, 1, row < 2 ? Long.MAX_VALUE : row == 5 ? Long.MIN_VALUE : row);
        }
        x.poke(x.address(0, 4, 2), 77);
        return x;
    }

    private static void count() {
        RecordLayouts x = keys();
        long before = x.digest();
        Check.due("31 less than 5", x.count(0, 0, 0, 5), 3);
        Check.due("31 equal to 5", x.count(0, 0, 1, 5), 2);
        Check.due("31 greater than 5", x.count(0, 0, 2, 5), 1);
        Check.due("31 less than the least", x.count(0, 1, 0, Long.MIN_VALUE), 0);
        Check.due("31 equal to the least", x.count(0, 1, 1, Long.MIN_VALUE), 1);
        Check.due("31 greater than the least", x.count(0, 1, 2, Long.MIN_VALUE), 5);
        Check.due("31 less than the greatest", x.count(0, 1, 0, Long.MAX_VALUE), 4);
        Check.due("31 a value beyond the type", x.count(0, 0, 0, 1000), 6);
        Check.due("31 no value beyond the type", x.count(0, 0, 1, 261), 0);
        Check.due("31 a b is 1", x.count(0, 2, 1, 1), 1);
        Check.due("31 nothing changes", x.digest(), before);
        Check.argument("31 relation 3", x, () -> x.count(0, 0, 3, 0));
        Check.argument("31 relation -1", x, () -> x.count(0, 0, -1, 0));
        Check.index("31 leaf 3 before relation", x, () -> x.count(0, 3, 3, 0));
        Check.index("31 leaf -1", x, () -> x.count(0, -1, 0, 0));
        Check.index("31 table 1", x, () -> x.count(1, 0, 0, 0));
    }

    private static void findRow() {
        RecordLayouts x = keys();
        Check.due("32 from 0", x.findRow(0, 0, 5, 0), 0);
        Check.due("32 from 1", x.findRow(0, 0, 5, 1), 2);
        Check.due("32 from 2", x.findRow(0, 0, 5, 2), 2);
        Check.due("32 from 3", x.findRow(0, 0, 5, 3), RecordLayouts.NONE);
        Check.due("32 the last row", x.findRow(0, 0, -128, 5), 5);
        Check.due("32 no such value", x.findRow(0, 0, 128, 0), RecordLayouts.NONE);
        Check.due("32 a b", x.findRow(0, 2, 1, 0), 4);
        Check.due("32 a b is never 77", x.findRow(0, 2, 77, 0), RecordLayouts.NONE);
        Check.index("32 from 6", x, () -> x.findRow(0, 0, 5, 6));
        Check.index("32 from -1", x, () -> x.findRow(0, 0, 5, -1));
        Check.index("32 leaf 3", x, () -> x.findRow(0, 3, 5, 0));
        Check.index("32 leaf -1", x, () -> x.findRow(0, -1, 5, 0));
        Check.index("32 table 1", x, () -> x.findRow(1, 0, 5, 0));
    }

    private static void sum() {
        RecordLayouts x = keys();
        Check.due("33 sum", x.sum(0, 0), 6);
        Check.due("33 overflows", x.sum(0, 1), -2 + 2 + 3 + 4 + Long.MIN_VALUE);
        Check.due("33 of a b", x.sum(0, 2), 1);
        Check.index("33 leaf 3", x, () -> x.sum(0, 3));
        Check.index("33 leaf -1", x, () -> x.sum(0, -1));
        Check.index("33 table 1", x, () -> x.sum(1, 0));
    }

    private static void linesByRows() {
        RecordLayouts x = new RecordLayouts();
        // 12 bytes a row: a at 0, b at 4, c at 8.
        Check.record(x, 8, "a:i8;b:i32;c:%3;d:%13;");
        x.newTable(0, 12, 0, 0);
        Check.due("34 all of all rows", x.lines(0, 15, 0, 11, 16), 9);
        Check.due("34 a in all rows", x.lines(0, 1, 0, 11, 16), 9);
        Check.due("34 a in all rows, lines of 64", x.lines(0, 1, 0, 11, 64), 3);
        Check.due("34 a in all rows, lines of 32", x.lines(0, 1, 0, 11, 32), 5);
        Check.due("34 b of row 1, 16 to 20", x.lines(0, 2, 1, 1, 16), 1);
        Check.due("34 a and b of row 1, 12 and 16 to 20", x.lines(0, 3, 1, 1, 16), 2);
        Check.due("34 bit fields of one unit", x.lines(0, 12, 0, 3, 16), 3);
        Check.due("34 no leaf", x.lines(0, 0, 0, 11, 16), 0);
        Check.due("34 bits without a leaf", x.lines(0, ~15L, 0, 11, 16), 0);
        Check.due("34 bits without a leaf beside one", x.lines(0, Long.MIN_VALUE | 1, 0, 0, 16), 1);
        RecordLayouts y = new RecordLayouts();
        Check.record(y, 1, "a:i8[4];b:i64;c:i8[3];");
        y.newTable(0, 4, 0, 0);
        // 15 bytes a row: b at 4, 19, 34, 49.
        Check.due("34 b of row 0, 4 to 12", y.lines(0, 16, 0, 0, 16), 1);
        y.newTable(0, 1, 0, 0);
        Check.record(y, 1, "a:i8[4];b:i8[4];c:i8[4];d:i64;");
        y.newTable(1, 1, 0, 0);
        Check.due("34 a leaf in two lines", y.lines(2, 1L << 12, 0, 0, 16), 2);
    }

    private static void linesByColumns() {
        RecordLayouts x = new RecordLayouts();
        Check.record(x, 8, "q:i8;");
        Check.record(x, 8, "a:i8;b:i32;c:i64;");
        x.newTable(0, 1, 0, 0);
        x.newTable(1, 10, 1, 0);
        // From base 16: a 16 to 26, b 28 to 68, c 72 to 152.
        Check.due("34 a", x.lines(1, 1, 0, 9, 16), 1);
        Check.due("34 b", x.lines(1, 2, 0, 9, 16), 4);
        Check.due("34 b, row 0, 28 to 32", x.lines(1, 2, 0, 0, 16), 1);
        Check.due("34 b, rows 1 to 8, 32 to 64", x.lines(1, 2, 1, 8, 32), 1);
        Check.due("34 c", x.lines(1, 4, 0, 9, 16), 6);
        Check.due("34 c, lines of 64 from address 0", x.lines(1, 4, 0, 9, 64), 2);
        Check.due("34 all", x.lines(1, 7, 0, 9, 16), 9);
        Check.due("34 the last row", x.lines(1, 7, 9, 9, 16), 3);
    }

    private static void linesRefuse() {
        RecordLayouts x = keys();
        Check.index("34 table 1", x, () -> x.lines(1, 1, 0, 0, 16));
        Check.index("34 from -1", x, () -> x.lines(0, 1, -1, 0, 16));
        Check.index("34 from 6", x, () -> x.lines(0, 1, 6, 0, 16));
        Check.index("34 to 6 before line", x, () -> x.lines(0, 1, 0, 6, 17));
        Check.index("34 to -1 before from greater than to", x, () -> x.lines(0, 1, 0, -1, 16));
        Check.argument("34 from greater than to", x, () -> x.lines(0, 1, 3, 2, 16));
        for (int line : new int[] {0, 1, 8, 15, 17, 48, 128, -16, Integer.MIN_VALUE}) {
            Check.argument("34 line " + line, x, () -> x.lines(0, 1, 0, 0, line));
        }
    }

    private static void runs() {
        RecordLayouts x = new RecordLayouts();
        // 12 bytes a row: a 0, b 4 to 8, c and d 8 to 10.
        Check.record(x, 8, "a:i8;b:i32;c:%3;d:%13;");
        x.newTable(0, 12, 0, 0);
        Check.due("35 a", x.runs(0, 1, 0, 11), 12);
        Check.due("35 b and c", x.runs(0, 6, 0, 11), 12);
        Check.due("35 a and b", x.runs(0, 3, 2, 4), 6);
        Check.due("35 c and d", x.runs(0, 12, 5, 5), 1);
        Check.due("35 no leaf", x.runs(0, 16, 0, 11), 0);
        Check.due("35 all leaves and bits without one", x.runs(0, -1, 0, 0), 2);
        x.convert(0, 1, 0);
        Check.due("35 a column", x.runs(0, 1, 0, 11), 1);
        Check.due("35 columns that follow one another", x.runs(0, 3, 0, 11), 1);
        Check.due("35 a part of them", x.runs(0, 3, 1, 11), 2);
        Check.due("35 rows 3 to 5 of three columns", x.runs(0, 7, 3, 5), 3);
        x.convert(0, 4, 0);
        Check.due("35 three blocks of a", x.runs(0, 1, 0, 11), 3);
        Check.due("35 rows 3 and 4 of a", x.runs(0, 1, 3, 4), 2);
        RecordLayouts y = new RecordLayouts();
        Check.record(y, 8, "a:i8[4];b:i32;");
        y.newTable(0, 12, 0, 0);
        Check.due("35 rows without padding", y.runs(0, -1, 0, 11), 1);
        Check.due("35 a run over the end of words of 64", y.runs(0, 30, 0, 11), 12);
    }

    private static void runsRefuse() {
        RecordLayouts x = keys();
        Check.index("35 table 1", x, () -> x.runs(1, 1, 0, 0));
        Check.index("35 from -1", x, () -> x.runs(0, 1, -1, 0));
        Check.index("35 from 6", x, () -> x.runs(0, 1, 6, 0));
        Check.index("35 to 6", x, () -> x.runs(0, 1, 0, 6));
        Check.index("35 to -1 before from greater than to", x, () -> x.runs(0, 1, 0, -1));
        Check.argument("35 from greater than to", x, () -> x.runs(0, 1, 3, 2));
    }

    private static void bestLayout() {
        RecordLayouts x = new RecordLayouts();
        // 16 bytes a row.
        Check.record(x, 8, "a:i32;b:u8;c:i64;");
        x.newTable(0, 12, 5, 0);
        long before = x.digest();
        Check.due("36 a: 3 lines by columns", x.bestLayout(0, 1, 16), 1);
        Check.due("36 no leaf: the lowest layout", x.bestLayout(0, 0, 16), 0);
        Check.due("36 bits without a leaf", x.bestLayout(0, ~7L, 64), 0);
        Check.due("36 all: 156 bytes by columns", x.bestLayout(0, 7, 16), 1);
        Check.due("36 nothing changes", x.digest(), before);
        RecordLayouts y = new RecordLayouts();
        // By rows 12 bytes a row; a column of b begins at 4 * rows, so that 3 rows take the bytes 0 to 12 and 12 to 18.
        Check.record(y, 8, "a:i32;b:u16;c:i32;");
        y.newTable(0, 3, 0, 0);
        Check.due("36 a: 0, 12 and 24 by rows, 0 to 12 by columns", y.bestLayout(0, 1, 16), 1);
        Check.due("36 all: 36 bytes by rows, 32 by columns", y.bestLayout(0, 7, 16), 1);
        Check.due("36 all, lines of 64", y.bestLayout(0, 7, 64), 0);
        Check.due("36 a and b: two lines of 16 by rows and by columns", y.bestLayout(0, 3, 16), 0);
        RecordLayouts z = new RecordLayouts();
        // By columns with 5 rows a 0 to 5, b 8 to 28, c 32 to 72; blocks of 2: a 0 to 2, b 4 to 12, c 16 to 32.
        Check.record(z, 8, "a:u8;b:i32;c:i64;");
        z.newTable(0, 5, 0, 0);
        Check.due("36 a and b: 2 lines by columns", z.bestLayout(0, 3, 16), 1);
        Check.due("36 a and b: 1 line of 32", z.bestLayout(0, 3, 32), 1);
        Check.index("36 table 1 before line", z, () -> z.bestLayout(1, 1, 17));
        Check.index("36 table -1", z, () -> z.bestLayout(-1, 1, 16));
        for (int line : new int[] {0, 1, 8, 48, 128, -1}) {
            Check.argument("36 line " + line, z, () -> z.bestLayout(0, 1, line));
        }
    }

    /** Other layouts of the table may have more bytes than the memory. */
    private static void bestLayoutBeyondMemory() {
        RecordLayouts x = new RecordLayouts();
        Check.record(x, 8, "a:i64[4];b:i64[4];");
        Check.record(x, 8, "a:#0[4];");
        x.newTable(1, 3, 0, 0);
        Check.due("36 256 bytes a row", x.tableInfo(0, 5), 768);
        Check.due("36 blocks of 8 have 2048 bytes", x.bestLayout(0, 1L << 31, 16), 1);
        Check.due("36 all leaves in lines of 64", x.bestLayout(0, -1, 64), 0);
        Check.state("25 no room for blocks of 8", x, () -> x.convert(0, 8, 0));
    }
}
