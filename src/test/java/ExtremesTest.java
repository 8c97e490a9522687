import java.util.concurrent.Callable;

/**
 * Each method with all combinations of arguments in, at the ends of and far out of their ranges, on full objects: the
 * answer, or the exception, and the digest afterwards are those of the model.
 */
public final class ExtremesTest {
    private static final int MIN = Integer.MIN_VALUE;
    private static final int MAX = Integer.MAX_VALUE;
    private static final int[] RECORDS = {MIN, -1, 0, 1, 2, 3, 4, 5, 6, MAX};
    private static final int[] TABLES = {MIN, -1, 0, 1, 2, 3, MAX};
    private static final int[] ROWS = {MIN, -1, 0, 1, 2, 4, 5, 11, 12, 13, MAX};
    private static final int[] LEAVES = {MIN, -1, 0, 1, 2, 3, 7, 39, 40, 63, 64, MAX};
    private static final int[] WHATS = {MIN, -1, 0, 1, 2, 3, 4, 5, 6, 7, MAX};
    private static final int[] LAYOUTS = {MIN, -1, 0, 1, 2, 7, 8, 9, MAX};
    private static final int[] ORDERS = {MIN, -1, 0, 1, 2, MAX};
    private static final int[] NAMES = {MIN, 0, 96, 97, 104, 122, 123, 353, MAX};
    private static final int[] TYPES = {MIN, -1, 0, 6, 7, 8, 20, 21, 36, 37, 99, 100, 101, 102, 104, 105, 106, MAX};
    private static final int[] COUNTS = {MIN, -1, 0, 1, 2, 4, 5, 1 << 30, MAX};
    private static final int[] LINES = {MIN, -16, 0, 1, 16, 17, 32, 48, 64, 65, 128, MAX};
    private static final int[] PACKS = {MIN, -1, 0, 1, 2, 3, 4, 7, 8, 9, 16, MAX};
    private static final int[] BYTES = {MIN, -256, -1, 0, 1, 127, 128, 255, 256, MAX};
    private static final int[] ADDRESSES = {MIN, -1, 0, 15, 16, 1022, 1023, 1024, 65536, MAX};
    private static final long[] VALUES = {Long.MIN_VALUE, MIN, -1, 0, 1, MAX, 1L << 32, Long.MAX_VALUE};
    private static final long[] SETS = {0, 1, 2, 6, 1L << 39, 1L << 40, 1L << 63, -1, 0xAAAAAAAAAAAAAAAAL};

    private static RecordLayouts program;
    private static Model model;
    private static int kind;
    private static int calls;
    private static long before;

    public static void main(String[] args) {
        for (kind = 0; kind < 3; kind++) {
            fresh();
            recordCalls();
            textCalls();
            tableCalls();
            memoryCalls();
            conversionCalls();
            questionCalls();
            scanCalls();
            stateCalls();
        }
        Check.finish();
    }

    private static void fresh() {
        program = new RecordLayouts();
        model = new Model();
        calls = 0;
        if (kind == 0) {
            before = program.digest();
            return;
        }
        String[] definitions = {"a:i8;b:%3;c:i32;", "q:b;", "p:#0[2];q:u8;", "a:b;b:b;c:b;d:b;e:b;f:b;g:b;h:b;",
            "a:#0[4];b:#0[4];c:#0[4];d:i8[4];"};
        for (String definition : definitions) {
            define(definition);
        }
        program.undo();
        model.undo();
        program.newRecord(2);
        model.newRecord(2);
        define(definitions[4].replace("a", "z"));
        if (kind == 1) {
            program.undo();
            model.undo();
        }
        for (int[] t : new int[][] {{0, 5, 1, 1}, {2, 12, 8, 0}, {3, 3, 0, 1}}) {
            if (kind == 2 || t[0] != 3) {
                program.newTable(t[0], t[1], t[2], t[3]);
                model.newTable(t[0], t[1], t[2], t[3]);
            }
        }
        program.fill(0, 2, -3, 7);
        model.fill(0, 2, -3, 7);
        before = program.digest();
    }

    private static void define(String text) {
        program.clearText();
        model.clearText();
        for (char c : text.toCharArray()) {
            program.append(c);
            model.append(c);
        }
        program.define(8);
        model.define(8);
        calls += text.length() + 2;
    }

    private static void same(String call, Callable<?> one, Callable<?> two) {
        Object want = Check.answer(two);
        Check.due("object " + kind + ": " + call, Check.answer(one), want);
        long digest = program.digest();
        Check.due("object " + kind + ": digest after " + call, digest, model.digest());
        calls += 2;
        if (digest != before || calls > 400) {
            fresh();
        }
    }

    private static String text(String name, long... arguments) {
        StringBuilder text = new StringBuilder(name);
        for (long argument : arguments) {
            text.append(' ').append(argument);
        }
        return text.toString();
    }

    private static void recordCalls() {
        for (int p : PACKS) {
            same(text("newRecord", p), () -> (long) program.newRecord(p), () -> model.newRecord(p));
        }
        for (int r : RECORDS) {
            for (int name : NAMES) {
                for (int type : TYPES) {
                    for (int count : COUNTS) {
                        same(text("addField", r, name, type, count),
                                () -> (long) program.addField(r, name, type, count),
                                () -> model.addField(r, name, type, count));
                    }
                }
            }
            for (int k : LEAVES) {
                for (int what : WHATS) {
                    same(text("recordInfo", r, what), () -> (long) program.recordInfo(r, what),
                            () -> model.recordInfo(r, what));
                    same(text("fieldInfo", r, k, what), () -> (long) program.fieldInfo(r, k, what),
                            () -> model.fieldInfo(r, k, what));
                    same(text("leafInfo", r, k, what), () -> (long) program.leafInfo(r, k, what),
                            () -> model.leafInfo(r, k, what));
                    same(text("pathByte", r, k, what), () -> (long) program.pathByte(r, k, what),
                            () -> model.pathByte(r, k, what));
                }
            }
            same(text("findLeaf", r), () -> (long) program.findLeaf(r), () -> model.findLeaf(r));
        }
    }

    private static void textCalls() {
        for (int b : BYTES) {
            same(text("append", b), () -> (long) program.append(b), () -> model.append(b));
        }
        same("clearText", () -> (long) program.clearText(), () -> model.clearText());
        for (int p : PACKS) {
            same(text("define", p), () -> (long) program.define(p), () -> model.define(p));
        }
    }

    private static void tableCalls() {
        for (int r : RECORDS) {
            for (int rows : ROWS) {
                for (int layout : LAYOUTS) {
                    for (int order : ORDERS) {
                        same(text("newTable", r, rows, layout, order),
                                () -> (long) program.newTable(r, rows, layout, order),
                                () -> model.newTable(r, rows, layout, order));
                    }
                }
            }
        }
        for (int t : TABLES) {
            same(text("removeTable", t), () -> (long) program.removeTable(t), () -> model.removeTable(t));
            for (int what : WHATS) {
                same(text("tableInfo", t, what), () -> (long) program.tableInfo(t, what),
                        () -> model.tableInfo(t, what));
            }
            for (int row : ROWS) {
                for (int k : LEAVES) {
                    same(text("address", t, row, k), () -> (long) program.address(t, row, k),
                            () -> model.address(t, row, k));
                    same(text("get", t, row, k), () -> program.get(t, row, k), () -> model.get(t, row, k));
                    same(text("set", t, row, k), () -> program.set(t, row, k, -2), () -> model.set(t, row, k, -2));
                }
            }
        }
    }

    private static void memoryCalls() {
        for (int a : ADDRESSES) {
            same(text("memory", a), () -> (long) program.memory(a), () -> model.memory(a));
            for (int b : BYTES) {
                same(text("poke", a, b), () -> (long) program.poke(a, b), () -> model.poke(a, b));
            }
        }
        same("freeBytes true", () -> (long) program.freeBytes(true), () -> model.freeBytes(true));
        same("freeBytes false", () -> (long) program.freeBytes(false), () -> model.freeBytes(false));
    }

    private static void conversionCalls() {
        for (int t : TABLES) {
            for (int layout : LAYOUTS) {
                for (int order : ORDERS) {
                    same(text("convert", t, layout, order), () -> (long) program.convert(t, layout, order),
                            () -> model.convert(t, layout, order));
                }
                for (int r : RECORDS) {
                    same(text("migrate", t, r, layout), () -> (long) program.migrate(t, r, layout),
                            () -> model.migrate(t, r, layout));
                }
            }
            for (int k : LEAVES) {
                same(text("sort", t, k), () -> (long) program.sort(t, k, true), () -> model.sort(t, k, true));
                same(text("sort up", t, k), () -> (long) program.sort(t, k, false), () -> model.sort(t, k, false));
                for (long v : VALUES) {
                    same(text("fill", t, k, v), () -> (long) program.fill(t, k, v, v), () -> model.fill(t, k, v, v));
                }
            }
            for (int from : ROWS) {
                for (int to : ROWS) {
                    same(text("copyRow", t, from, to), () -> (long) program.copyRow(t, from, to),
                            () -> model.copyRow(t, from, to));
                }
            }
        }
        same("compact", () -> (long) program.compact(), () -> model.compact());
    }

    private static void questionCalls() {
        for (int t : TABLES) {
            for (int k : LEAVES) {
                same(text("sum", t, k), () -> program.sum(t, k), () -> model.sum(t, k));
                for (long v : VALUES) {
                    for (int relation : ORDERS) {
                        same(text("count", t, k, relation, v), () -> (long) program.count(t, k, relation, v),
                                () -> model.count(t, k, relation, v));
                    }
                    for (int row : ROWS) {
                        same(text("findRow", t, k, v, row), () -> (long) program.findRow(t, k, v, row),
                                () -> model.findRow(t, k, v, row));
                    }
                }
            }
        }
    }

    private static void scanCalls() {
        for (int t : TABLES) {
            for (long set : SETS) {
                for (int line : LINES) {
                    same(text("lines", t, set, 0, 1, line), () -> (long) program.lines(t, set, 0, 1, line),
                            () -> model.lines(t, set, 0, 1, line));
                    same(text("bestLayout", t, set, line), () -> (long) program.bestLayout(t, set, line),
                            () -> model.bestLayout(t, set, line));
                }
                for (int from : ROWS) {
                    for (int to : ROWS) {
                        same(text("lines", t, set, from, to), () -> (long) program.lines(t, set, from, to, 16),
                                () -> model.lines(t, set, from, to, 16));
                        same(text("runs", t, set, from, to), () -> (long) program.runs(t, set, from, to),
                                () -> model.runs(t, set, from, to));
                    }
                }
            }
        }
    }

    private static void stateCalls() {
        same("records", () -> (long) program.records(), () -> model.records());
        same("tables", () -> (long) program.tables(), () -> model.tables());
        for (int i = 0; i < 5; i++) {
            int times = i;
            same("undo " + i, () -> undoTimes(times), () -> undoModel(times));
        }
    }

    private static long undoTimes(int times) {
        long left = 0;
        for (int i = 0; i <= times; i++) {
            left = program.undo();
        }
        return left;
    }

    private static long undoModel(int times) {
        long left = 0;
        for (int i = 0; i <= times; i++) {
            left = model.undo();
        }
        return left;
    }
}
