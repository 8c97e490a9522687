import java.util.Arrays;
import java.util.Random;

/** Runs of calls, the same ones for every start of the test, on the program and on the model. */
public final class ModelTest {
    private static final int RUNS = 150;
    private static final int CALLS = 512;
    private static final String[] WORDS = {
        "a:i8;", "b:u8;", "c:i16;", "d:u16;", "e:i32;", "f:u32;", "g:i64;", "h:b;", "i:%3;", "j:%16;", "k:%9;",
        "l:i8[3];", "m:b[4];", "n:i64[2];", "o:#0;", "p:#1[2];", "q:#2[4];", "r:#3;", "s:#4[3];", "t:#5;", "u:%1;",
        "a:u32[4];", "b:i64;", "c:%12;", "d:b;", "a", "a[1]", "o.a", "p[1].b", "q[3].o.c", "l[2]", "i8", "x:", "i1",
        "#0", "[2]", "[5]", "%17;", "%0;", "%2", ";", ":", "u64;", "z:i6", "4;", "[0];", "p[0].o.a", "m[0]", "%10;"};
    private static final String[] RECORDS = {
        "a:i8;b:i32;", "a:%5;b:%12;c:%16;d:b;", "a:i64[4];b:u8;", "c:i16;a:i8;b:u16[2];", "o:#0;p:#1[2];",
        "o:#0[2];a:u8;", "b:i64;a:i16;", "l:i8[3];k:u32;", "a:i8;b:i64;c:i8;d:i32;e:%3;f:i16;g:%14;h:b;",
        "a:%1;b:%9;c:i8;d:%7;e:%15;f:i32;g:%4;h:i64;", "a:%3;b:%5;c:%7;d:%9;e:%11;f:%13;g:%15;h:%16;", "a:b[4];c:u32;"};
    private static final long[] VALUES = {
        0, 1, -1, 2, 127, 128, 255, 256, -128, -129, 32767, 32768, 65535, 65536, 2147483647L, 2147483648L,
        4294967295L, Long.MAX_VALUE, Long.MIN_VALUE, 0x123456789ABCDEFL};

    private static RecordLayouts program;
    private static Model model;
    private static Random random;
    private static String trace;
    private static final StringBuilder LOG = new StringBuilder();

    private static int below(int n) {
        return random.nextInt(n);
    }

    /** A number below n, now and then one that is just not in the range. */
    private static int near(int n) {
        if (below(25) == 0) {
            return below(2) == 0 ? -1 - below(3) : n + below(3);
        }
        return n < 1 ? 0 : below(n);
    }

    private static int record() {
        return near((int) model.records());
    }

    private static int table() {
        return near(below(8) == 0 ? 3 : Math.max(1, 32 - Integer.numberOfLeadingZeros((int) model.tables())));
    }

    private static int leafOf(int record) {
        boolean there = record >= 0 && record < model.records();
        return near(there ? (int) model.recordInfo(record, 5) : 3);
    }

    private static boolean isTable(int table) {
        return table >= 0 && (model.tables() >> table & 1) == 1;
    }

    private static int leafIn(int table) {
        return isTable(table) ? leafOf((int) model.tableInfo(table, 0)) : below(3);
    }

    private static int rowIn(int table) {
        return near(isTable(table) ? (int) model.tableInfo(table, 1) : 3);
    }

    private static long value() {
        switch (below(4)) {
            case 0: return VALUES[below(VALUES.length)];
            case 1: return random.nextLong();
            case 2: return below(5) - 2;
            default: return below(70000) - 1000;
        }
    }

    private static long leaves() {
        return below(3) == 0 ? -1 : random.nextLong() & random.nextLong();
    }

    private static int pack() {
        return below(20) == 0 ? below(12) - 1 : 1 << below(4);
    }

    private static int type() {
        switch (below(8)) {
            case 0: return below(40) - 1;
            case 1: return 99 + below(8);
            case 2: case 3: return 21 + below(16);
            case 4: return 100 + below(Math.max(1, (int) model.records()));
            default: return below(8);
        }
    }

    private static int line() {
        return below(20) == 0 ? below(70) : 16 << below(3);
    }

    private static void word(String word) {
        for (char c : word.toCharArray()) {
            same("append", (int) c);
        }
    }

    private static void define(String text) {
        same("clearText");
        word(text);
        int pack = pack();
        same("define", pack);
    }

    private static void same(String name, Object... arguments) {
        LOG.append(' ').append(name).append(Arrays.toString(arguments));
        Object want = Call.answer(model, name, arguments);
        Object got = Call.answer(program, name, arguments);
        if (!got.equals(want)) {
            Check.due(trace + LOG, got, want);
            Check.finish();
        }
    }

    private static void callRecords() {
        int r = record();
        int leaf = leafOf(r);
        int what = near(7);
        int i = near(20);
        switch (below(10)) {
            case 0: int p = pack(); same("newRecord", p); break;
            case 1: case 2: case 3: case 4:
                int name = 96 + below(28);
                int type = type();
                int count = below(3) == 0 ? near(6) : 1;
                same("addField", r, name, type, count);
                break;
            case 5: same("recordInfo", r, what); break;
            case 6: int f = near(8); same("fieldInfo", r, f, what); break;
            case 7: same("leafInfo", r, leaf, what); break;
            case 8: same("pathByte", r, leaf, i); break;
            default:
                if (below(6) == 0) {
                    same("bestSize", r);
                    same("bestOrder", r, i);
                }
        }
    }

    private static void callTexts() {
        int r = record();
        switch (below(6)) {
            case 0: same("clearText"); break;
            case 1: word(WORDS[below(WORDS.length)]); break;
            case 2:
                word(WORDS[below(WORDS.length)]);
                int p = pack();
                same("define", p);
                break;
            case 3:
                same("append", near(128));
                break;
            case 4:
                if (r >= 0 && r < model.records() && model.recordInfo(r, 5) > 0) {
                    same("clearText");
                    word(model.path(r, below((int) model.recordInfo(r, 5))));
                }
                same("findLeaf", r);
                break;
            default:
                define(RECORDS[below(RECORDS.length)]);
        }
    }

    private static void callTables() {
        int r = record();
        int t = table();
        int leaf = leafIn(t);
        int row = rowIn(t);
        long v = value();
        int a = below(10) == 0 ? near(1024) : below(200);
        switch (below(9)) {
            case 0: case 1:
                int rows = below(15) == 0 ? below(16) - 1 : 1 + below(12);
                int layout = near(9);
                int order = below(25) == 0 ? below(5) - 1 : below(2);
                same("newTable", r, rows, layout, order);
                break;
            case 2: if (below(3) == 0) { same("removeTable", t); } break;
            case 3: int what = near(6); same("tableInfo", t, what); break;
            case 4: same("address", t, row, leaf); break;
            case 5: same("get", t, row, leaf); break;
            case 6: same("set", t, row, leaf, v); break;
            case 7: same("memory", a); break;
            default: int b = near(256); same("poke", a, b);
        }
        boolean largest = below(2) == 0;
        same("freeBytes", largest);
    }

    private static void callConversions() {
        int t = table();
        int leaf = leafIn(t);
        int layout = near(9);
        boolean down = below(2) == 0;
        switch (below(7)) {
            case 0: int order = near(2); same("convert", t, layout, order); break;
            case 1: int r = record(); same("migrate", t, r, layout); break;
            case 2: same("compact"); break;
            case 3: same("sort", t, leaf, down); break;
            case 4: int from = rowIn(t); int to = rowIn(t); same("copyRow", t, from, to); break;
            default: long v = value(); long w = value(); same("fill", t, leaf, v, w);
        }
    }

    private static void callQuestions() {
        int t = table();
        int leaf = leafIn(t);
        int from = rowIn(t);
        int to = rowIn(t);
        int line = line();
        long set = leaves();
        int there = rowIn(t);
        Object found = Check.answer(() -> model.get(t, there, leaf));
        long v = found instanceof Long && below(2) == 0 ? (Long) found : value();
        switch (below(6)) {
            case 0: int relation = near(3); same("count", t, leaf, relation, v); break;
            case 1: same("findRow", t, leaf, v, from); break;
            case 2: same("sum", t, leaf); break;
            case 3: same("lines", t, set, from, to, line); break;
            case 4: same("runs", t, set, from, to); break;
            default: same("bestLayout", t, set, line);
        }
    }

    private static void call() {
        switch (below(12)) {
            case 0: case 1: callRecords(); break;
            case 2: callTexts(); break;
            case 3: case 4: case 5: callTables(); break;
            case 6: case 7: callConversions(); break;
            case 8: case 9: case 10: callQuestions(); break;
            default: if (below(3) == 0) { same("undo"); }
        }
        same("records");
        same("tables");
        same("digest");
    }

    private static void fresh(String kind, int run) {
        program = new RecordLayouts();
        model = new Model();
        random = new Random(run);
        trace = kind + " " + run + ":";
        LOG.setLength(0);
    }

    private static String typeText() {
        switch (below(6)) {
            case 0: return "%" + (1 + below(17));
            case 1: return "#" + below(4);
            default: return new String[] {"i8", "u8", "i16", "u16", "i32", "u32", "i64", "b"}[below(8)];
        }
    }

    private static String definitionText() {
        StringBuilder text = new StringBuilder();
        int fields = 1 + below(9);
        for (int f = 0; f < fields; f++) {
            text.append((char) ('a' + (below(30) == 0 ? below(8) : f))).append(':').append(typeText());
            if (below(4) == 0) {
                text.append('[').append(1 + below(4)).append(']');
            }
            text.append(';');
        }
        for (int i = below(3); i > 0 && text.length() > 0; i--) {
            int at = below(text.length());
            char sign = "abhiu#%[];:0123456789A".charAt(below(22));
            switch (below(4)) {
                case 0: text.deleteCharAt(at); break;
                case 1: text.insert(at, sign); break;
                case 2: text.setCharAt(at, sign); break;
                default: text.setLength(at);
            }
        }
        return text.substring(0, Math.min(80, text.length()));
    }

    private static void definitions(int run) {
        fresh("definitions", run);
        define("a:i8;b:i64;");
        same("newRecord", 8);
        define("a:i32[4];b:%3;c:u8[4];");
        for (int i = 0; i < 20; i++) {
            define(definitionText());
            same("digest");
            if (model.records() == 6) {
                same("undo");
            }
        }
    }

    private static void orders(int run) {
        fresh("orders", run);
        define("a:i8;b:i64;");
        define(run % 2 == 0 ? "a:i16;b:u8;" : "a:%3;b:u8[3];");
        int pack = 1 << below(4);
        same("newRecord", pack);
        int fields = run % 10 == 0 ? 8 : 3 + below(5);
        for (int f = 0; f < fields; f++) {
            int name = 'a' + f;
            int type = below(3) > 0 ? below(8) : below(3) > 0 ? 21 + below(16) : 100 + below(2);
            int count = type < 20 && below(3) == 0 ? 1 + below(4) : 1;
            same("addField", 2, name, type, count);
        }
        same("bestSize", 2);
        for (int i = 0; i < fields; i++) {
            same("bestOrder", 2, i);
        }
    }

    public static void main(String[] args) {
        int runs = args.length > 0 ? Integer.parseInt(args[0]) : RUNS;
        for (int run = 0; run < runs; run++) {
            definitions(run);
            orders(run);
            fresh("run", run);
            for (int i = 0; i < 1 + run % 5; i++) {
                define(RECORDS[below(RECORDS.length)]);
            }
            for (int i = 0; i < CALLS; i++) {
                call();
            }
        }
        Check.due("runs that are the same", runs, runs);
        Check.finish();
    }
}
