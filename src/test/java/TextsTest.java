/** Promises 12 to 14: the text and the definitions that are read from it. */
public final class TextsTest {
    public static void main(String[] args) {
        append();
        clearText();
        define();
        defineRefuses();
        syntaxErrors();
        contextErrors();
        tooManyLeaves();
        sameAsAddField();
        Check.finish();
    }

    private static void append() {
        RecordLayouts x = new RecordLayouts();
        Check.argument("12 append -1", x, () -> x.append(-1));
        Check.argument("12 append 128", x, () -> x.append(128));
        Check.argument("12 append 353", x, () -> x.append(353));
        Check.due("12 append 0", x.append(0), 1);
        Check.due("12 append 127", x.append(127), 2);
        for (int i = 3; i <= 80; i++) {
            Check.due("12 append", x.append('a'), i);
        }
        Check.state("12 a byte too many", x, () -> x.append('a'));
        Check.argument("12 the argument first", x, () -> x.append(128));
        Check.state("12 append is not undoable", x, () -> x.undo());
    }

    private static void clearText() {
        RecordLayouts x = new RecordLayouts();
        Check.due("13 clearText of nothing", x.clearText(), 0);
        Check.write(x, "a:i8;");
        Check.due("13 clearText", x.clearText(), 5);
        Check.due("13 clearText again", x.clearText(), 0);
        Check.due("13 the text is empty", x.define(8), -10);
        Check.due("13 append afterwards", x.append('q'), 1);
        Check.state("13 clearText is not undoable", x, () -> x.undo());
    }

    private static void define() {
        RecordLayouts x = new RecordLayouts();
        Check.write(x, "a:i8;b:u8[1];c:i16;d:u16[2];e:i32[3];f:u32;g:i64[4];h:b;");
        Check.due("14 define", x.define(4), 0);
        int[] counts = {1, 1, 1, 2, 3, 1, 4, 1};
        for (int i = 0; i < 8; i++) {
            Check.due("14 name", x.fieldInfo(0, i, 0), 'a' + i);
            Check.due("14 type", x.fieldInfo(0, i, 1), i);
            Check.due("14 count", x.fieldInfo(0, i, 2), counts[i]);
        }
        Check.due("14 pack", x.recordInfo(0, 0), 4);
        Check.due("14 the text stays", x.clearText(), 56);
        Check.write(x, "z:%1;y:%9;x:%10;w:%16;v:#0;u:%2;");
        Check.due("14 define again", x.define(1), 1);
        int[] types = {21, 29, 30, 36, 100, 22};
        for (int i = 0; i < types.length; i++) {
            Check.due("14 name", x.fieldInfo(1, i, 0), 'z' - i);
            Check.due("14 type", x.fieldInfo(1, i, 1), types[i]);
        }
        Check.due("14 undoable", x.undo(), 1);
        Check.due("14 undone", x.records(), 1);
        Check.due("14 undo leaves the text", x.clearText(), 32);
        Check.due("14 the first one undone", x.undo(), 0);
    }

    private static void defineRefuses() {
        RecordLayouts x = new RecordLayouts();
        Check.write(x, "a:i8;");
        for (int pack : new int[] {0, 3, -1, 16, 9}) {
            Check.argument("14 pack " + pack, x, () -> x.define(pack));
        }
        for (int i = 0; i < 6; i++) {
            Check.due("14 define", x.define(8), i);
        }
        Check.state("14 a seventh record", x, () -> x.define(8));
        Check.argument("14 the argument first", x, () -> x.define(5));
        Check.write(x, "?");
        Check.state("14 the exception before the syntax error", x, () -> x.define(8));
    }

    /** Record 0 has fields, record 1 has none. */
    private static void errorAt(String text, int position) {
        RecordLayouts x = new RecordLayouts();
        Check.record(x, 8, "a:i8;");
        x.newRecord(8);
        Check.write(x, text);
        long before = x.digest();
        Check.due("14 define of " + text, x.define(8), -10 - position);
        Check.due("14 nothing changes by " + text, x.digest(), before);
    }

    private static void syntaxErrors() {
        String[] tooShort = {"", "a", "a:", "a:i", "a:i1", "a:i3", "a:i6", "a:u", "a:u1", "a:u3", "a:b", "a:i8", "a:#",
            "a:#0", "a:%", "a:%1", "a:%16", "a:%9", "a:i8[", "a:i8[2", "a:i8[2]", "a:i8;b", "a:i8;b:%10"};
        for (String text : tooShort) {
            errorAt(text, text.length());
        }
        errorAt("A:i8;", 0);
        errorAt(" a:i8;", 0);
        errorAt("1:i8;", 0);
        errorAt("`:i8;", 0);
        errorAt("{:i8;", 0);
        errorAt(";", 0);
        errorAt("aa:i8;", 1);
        errorAt("a;", 1);
        errorAt("a: i8;", 2);
        errorAt("a:;", 2);
        errorAt("a:c;", 2);
        errorAt("a:I8;", 2);
        errorAt("a:8;", 2);
        errorAt("a:i2;", 3);
        errorAt("a:i4;", 3);
        errorAt("a:i;", 3);
        errorAt("a:i18;", 4);
        errorAt("a:i1;", 4);
        errorAt("a:i36;", 4);
        errorAt("a:i62;", 4);
        errorAt("a:i88;", 4);
        errorAt("a:i644;", 5);
        errorAt("a:u64;", 3);
        errorAt("a:u12;", 4);
        errorAt("a:b8;", 3);
        errorAt("a:i8,", 4);
        errorAt("a:i8 ;", 4);
        errorAt("a:i8;;", 5);
        errorAt("a:i8; b:i8;", 5);
        errorAt("a:i8;\u0000", 5);
        errorAt("a:i8[];", 5);
        errorAt("a:i8[a];", 5);
        errorAt("a:i8[2;", 6);
        errorAt("a:i8[22];", 6);
        errorAt("a:i8[2]]", 7);
        errorAt("a:i8[2][2];", 7);
    }

    private static void contextErrors() {
        errorAt("a:i8;a:i8;", 5);
        errorAt("a:i8;b:i8;a", 10);
        errorAt("a:b;b:b;c:b;d:b;e:b;f:b;g:b;h:b;i:b;", 32);
        errorAt("a:b;b:b;c:b;d:b;e:b;f:b;g:b;h:b;?", 32);
        errorAt("a:#1;", 3);
        errorAt("a:#2;", 3);
        errorAt("a:#9;", 3);
        errorAt("a:#a;", 3);
        errorAt("a:#;", 3);
        errorAt("a:#00;", 4);
        errorAt("a:%0;", 3);
        errorAt("a:%01;", 3);
        errorAt("a:%;", 3);
        errorAt("a:%-1;", 3);
        errorAt("a:%17;", 4);
        errorAt("a:%19;", 4);
        errorAt("a:%20;", 4);
        errorAt("a:%99;", 4);
        errorAt("a:%100;", 5);
        errorAt("a:%160;", 5);
        errorAt("a:%5[1];", 4);
        errorAt("a:%16[2];", 5);
        errorAt("a:i8[0];", 5);
        errorAt("a:i8[5];", 5);
        errorAt("a:i8[9];", 5);
        errorAt("a:#0[0];", 5);
        RecordLayouts x = new RecordLayouts();
        Check.write(x, "a:#0;");
        Check.due("14 the digit of no record, not the #", x.define(8), -13);
        Check.due("14 no record afterwards", x.records(), 0);
        Check.state("14 no state is saved", x, () -> x.undo());
    }

    private static void tooManyLeaves() {
        RecordLayouts x = new RecordLayouts();
        Check.record(x, 8, "a:i8[4];b:i8[4];c:i8[2];");
        Check.write(x, "a:#0[4];b:%1;");
        Check.due("14 41 leaves", x.define(8), -22);
        Check.write(x, "a:#0[4];b:i8[4];");
        Check.due("14 44 leaves", x.define(8), -25);
        Check.write(x, "a:#0[4];b:i8[4");
        Check.due("14 the text ends before the ;", x.define(8), -24);
        Check.write(x, "a:#0[4];b:#0x");
        Check.due("14 another byte than the ;", x.define(8), -22);
        Check.write(x, "a:#0[4];");
        Check.due("14 40 leaves", x.define(8), 1);
        Check.due("14 leaves", x.recordInfo(1, 5), 40);
        Check.write(x, "a:#0[3];b:i8[4];c:b[4];d:%3;e:u8;");
        Check.due("14 40 leaves with plain ones", x.define(8), 2);
        Check.due("14 leaves", x.recordInfo(2, 5), 40);
        Check.write(x, "a:#1;b:b;");
        Check.due("14 a full record and a leaf", x.define(8), -18);
        Check.write(x, "a:#1[2];");
        Check.due("14 two full records", x.define(8), -17);
    }

    private static void sameAsAddField() {
        RecordLayouts x = new RecordLayouts();
        Check.record(x, 4, "a:i16;b:u8[2];c:%5;d:i64;e:%12;");
        x.clearText();
        RecordLayouts y = new RecordLayouts();
        y.newRecord(4);
        int[] types = {2, 1, 25, 6, 32};
        for (int i = 0; i < types.length; i++) {
            y.addField(0, 'a' + i, types[i], i == 1 ? 2 : 1);
        }
        for (int what = 0; what <= 6; what++) {
            Check.due("14 like addField " + what, x.recordInfo(0, what), y.recordInfo(0, what));
        }
        for (int f = 0; f < 5; f++) {
            for (int what = 0; what <= 5; what++) {
                Check.due("14 like addField " + f + " " + what, x.fieldInfo(0, f, what), y.fieldInfo(0, f, what));
            }
        }
    }
}
