import java.util.ArrayList;
import java.util.List;

/** One test for each sentence of TYPES and RECORDS, and of promises 2 to 11, that names a boundary case. */
public final class BoundsRecordsTest {
    public static void main(String[] args) {
        typesAreThese();
        bytesOfTypes();
        atMostSixRecords();
        packIsOneTwoFourOrEight();
        atMostEightFields();
        nameIsALetter();
        differentNamesInARecord();
        countIsOneToFour();
        countOfABitFieldIsOne();
        recordTypeHasASmallerNumberAndFields();
        atMostFortyLeaves();
        atMostFortyLeavesOfPlainTypes();
        leavesOfTheLastElement();
        pathHasAnIndexIfCountIsGreaterThanOne();
        pathHasNoSuchByte();
        alignmentOrPackWhicheverIsSmaller();
        alignmentOfRecordsOrPack();
        firstFieldAtZero();
        unitHasEnoughBitsLeft();
        unitOfTheFieldBefore();
        placedWhereOneWasUndone();
        bitFieldInsideARecord();
        recordWithoutFields();
        sizeIsRoundedUp();
        padding();
        inUse();
        usedRecordTakesNoField();
        numbersOfRecords();
        numbersOfFieldsAndLeaves();
        numbersOfWhat();
        findLeafIsTheWholePath();
        bestOfNoneAndOne();
        bestOfEight();
        bestIsTheLexicographicallySmallest();
        bestAfterChanges();
        Check.finish();
    }

    // ---- TYPES

    private static boolean isPlainOrBits(int type) {
        return type >= 0 && type <= 7 || type >= 21 && type <= 36;
    }

    /** "0 to 7 are the plain types ...; 20 + w (w from 1 to 16) is a bit field ...; 100 + r is the record r." */
    private static void typesAreThese() {
        Bounds.range("type of record 2", IllegalArgumentException.class, t -> isPlainOrBits(t) || t == 100,
                () -> Bounds.records(8, "a:i8;", "-", "-", "a:i8;"), (x, t) -> x.addField(2, 'q', t, 1));
        Bounds.range("type of record 0", IllegalArgumentException.class, t -> isPlainOrBits(t),
                () -> Bounds.records(8, "a:i8;", "a:i8;"), (x, t) -> x.addField(0, 'q', t, 1));
        Bounds.range("type of record 5", IllegalArgumentException.class,
                t -> isPlainOrBits(t) || t >= 100 && t <= 104,
                () -> Bounds.records(8, "a:b;", "a:b;", "a:b;", "a:b;", "a:b;", "a:b;"),
                (x, t) -> x.addField(5, 'q', t, 1));
    }

    /** "... with 1, 1, 2, 2, 4, 4, 8 and 1 bytes; ... which lies in a unit of 2 bytes". */
    private static void bytesOfTypes() {
        for (int type = 0; type <= 36; type = type == 7 ? 21 : type + 1) {
            RecordLayouts x = Bounds.records(8, "-");
            x.addField(0, 'a', type, 1);
            int bytes = type > 20 ? 2 : Bounds.PLAIN_BYTES[type];
            Check.due("6 bytes of an element of type " + type, x.fieldInfo(0, 0, 5), bytes);
            Check.due("5 size of a record with type " + type, x.recordInfo(0, 2), bytes);
            Check.due("5 its padding", x.recordInfo(0, 4), 0);
            Check.due("7 type of its leaf", x.leafInfo(0, 0, 0), type);
        }
    }

    // ---- RECORDS

    /** "There are at most 6 records, numbered from 0 in the order of their creation." */
    private static void atMostSixRecords() {
        RecordLayouts x = new RecordLayouts();
        Check.write(x, "a:b;");
        for (int i = 0; i < 6; i++) {
            Check.due("4 records", x.records(), i);
            Check.due("2 number of a record", i % 2 == 0 ? x.newRecord(1) : x.define(1), i);
        }
        Check.due("4 records at the most", x.records(), 6);
        Check.state("2 newRecord with 6 records", x, () -> x.newRecord(1));
        Check.state("14 define with 6 records", x, () -> x.define(1));
        Check.due("4 still", x.records(), 6);
        x.undo();
        Check.due("2 the sixth one again", x.newRecord(8), 5);
        Check.state("2 and no more", x, () -> x.newRecord(8));
    }

    /** "A record has a pack (1, 2, 4 or 8)". */
    private static void packIsOneTwoFourOrEight() {
        Bounds.range("2 pack", IllegalArgumentException.class, p -> p == 1 || p == 2 || p == 4 || p == 8,
                () -> Bounds.records(8, "a:b;"), (x, p) -> x.newRecord(p));
        Bounds.range("14 pack", IllegalArgumentException.class, p -> p == 1 || p == 2 || p == 4 || p == 8,
                () -> Bounds.written("a:i64;"), (x, p) -> x.define(p));
    }

    /** "... and at most 8 fields, numbered from 0." */
    private static void atMostEightFields() {
        for (int type : new int[] {0, 6, 7, 21, 36, 100}) {
            RecordLayouts x = Bounds.records(8, "a:b;", "-");
            for (int i = 0; i < 8; i++) {
                Check.due("3 fields afterwards", x.addField(1, 'h' - i, type, 1), i + 1);
                Check.due("6 name of field " + i, x.fieldInfo(1, i, 0), 'h' - i);
            }
            for (int ninth : new int[] {0, 6, 7, 21, 36, 100}) {
                Check.state("3 a ninth field of type " + ninth, x, () -> x.addField(1, 'i', ninth, 1));
            }
            Check.due("5 fields", x.recordInfo(1, 1), 8);
            x.undo();
            Check.due("3 the eighth one again", x.addField(1, 'z', type, 1), 8);
        }
    }

    /** "A field has a name (a letter from a to z, as its character code". */
    private static void nameIsALetter() {
        Bounds.range("3 name", IllegalArgumentException.class, n -> n >= 'a' && n <= 'z',
                () -> Bounds.records(8, "-"), (x, n) -> x.addField(0, n, 0, 1));
        Bounds.range("3 name of the second field", IllegalArgumentException.class,
                n -> n >= 'a' && n <= 'z' && n != 'm', () -> Bounds.records(8, "m:b;"),
                        (x, n) -> x.addField(0, n, 0, 1));
    }

    /** "different names in a record" */
    private static void differentNamesInARecord() {
        RecordLayouts x = Bounds.records(8, "a:b;m:i8;", "z:i8;b:#0;y:%3;c:b;d:b;e:b;f:b;");
        for (char name : "zbycdef".toCharArray()) {
            Check.argument("3 name " + name + " for a second time", x, () -> x.addField(1, name, 0, 1));
        }
        Check.due("3 a name of the record in a field", x.addField(1, 'm', 0, 1), 8);
        Check.argument("3 the name of the eighth field, too, before the ninth field", x,
                () -> x.addField(1, 'm', 0, 1));
        x.undo();
        Check.due("3 the undone name is free", x.addField(1, 'm', 0, 1), 8);
    }

    /** "a count from 1 to 4, the number of its elements" */
    private static void countIsOneToFour() {
        for (int type = 0; type <= 8; type++) {
            int asked = type == 8 ? 100 : type;
            Bounds.range("3 count of type " + asked, IllegalArgumentException.class, c -> c >= 1 && c <= 4,
                    () -> Bounds.records(8, "a:b;b:i16;", "-"), (x, c) -> x.addField(1, 'q', asked, c));
        }
        for (int count = 1; count <= 4; count++) {
            RecordLayouts x = Bounds.records(8, "a:i32;b:i8;", "-");
            x.addField(1, 'a', 2, count);
            x.addField(1, 'b', 100, count);
            Check.due("6 count", x.fieldInfo(1, 0, 2), count);
            Check.due("6 count of records", x.fieldInfo(1, 1, 2), count);
            Check.due("5 leaves", x.recordInfo(1, 5), 3 * count);
            Check.due("6 the elements directly follow one another", x.fieldInfo(1, 1, 3), Bounds.up(2 * count, 4));
            Check.due("5 size", x.recordInfo(1, 2), Bounds.up(2 * count, 4) + 8 * count);
        }
    }

    /** "(1 for a bit field)" */
    private static void countOfABitFieldIsOne() {
        for (int type : new int[] {21, 28, 36}) {
            Bounds.range("3 count of type " + type, IllegalArgumentException.class, c -> c == 1,
                    () -> Bounds.records(8, "-"), (x, c) -> x.addField(0, 'q', type, c));
        }
    }

    /** "If its type is a record, this has a smaller number and at least one field." */
    private static void recordTypeHasASmallerNumberAndFields() {
        for (int outer = 0; outer < 6; outer++) {
            for (int inner = 0; inner < 8; inner++) {
                RecordLayouts x = Bounds.records(8, "a:b;", "-", "a:b;", "-", "a:b;", "a:b;");
                int record = outer;
                int type = 100 + inner;
                boolean fine = inner < outer && inner % 2 == 0;
                if (fine) {
                    Check.due("3 record " + inner + " in " + outer, x.addField(record, 'q', type, 1) > 0 ? 1 : 0, 1);
                    Check.due("6 its type", x.fieldInfo(record, x.recordInfo(record, 1) - 1, 1), type);
                } else {
                    Check.argument("3 record " + inner + " in " + outer, x, () -> x.addField(record, 'q', type, 1));
                }
            }
        }
        RecordLayouts x = Bounds.records(8, "-", "-");
        Check.argument("3 no fields yet", x, () -> x.addField(1, 'a', 100, 1));
        x.addField(0, 'a', 0, 1);
        Check.due("3 one field is enough", x.addField(1, 'a', 100, 1), 1);
    }

    /** A record 1 with so many leaves of type b, and a record 0 with one. */
    private static RecordLayouts withLeaves(int leaves) {
        RecordLayouts x = Bounds.records(1, "a:b;", "-");
        addLeaves(x, 1, leaves);
        return x;
    }

    private static void addLeaves(RecordLayouts x, int record, int leaves) {
        for (int i = 0; i < leaves; i += 4) {
            x.addField(record, 'a' + i / 4, 7, Math.min(4, leaves - i));
        }
    }

    /** "A record has at most 40 leaves." */
    private static void atMostFortyLeaves() {
        for (int leaves = 1; leaves <= 32; leaves++) {
            for (int count = 1; count <= 4; count++) {
                RecordLayouts x = withLeaves(leaves);
                x.newRecord(1);
                int times = count;
                if (leaves * count <= 40) {
                    Check.due("3 " + count + " times " + leaves, x.addField(2, 'a', 101, times), 1);
                    Check.due("5 leaves", x.recordInfo(2, 5), leaves * count);
                } else {
                    Check.state("3 " + count + " times " + leaves, x, () -> x.addField(2, 'a', 101, times));
                }
            }
        }
        for (int leaves = 5; leaves <= 8; leaves++) {
            for (int count = 1; count <= 4; count++) {
                RecordLayouts x = withLeaves(leaves);
                x.newRecord(1);
                x.addField(2, 'a', 101, 4);
                x.addField(2, 'b', 7, 4);
                int have = 4 * leaves + 4;
                for (int type : new int[] {7, 100}) {
                    int times = count;
                    if (have + count <= 40) {
                        Check.due("3 " + have + " and " + count, x.addField(2, 'c', type, times), 3);
                        x.undo();
                    } else {
                        Check.state("3 " + have + " and " + count, x, () -> x.addField(2, 'c', type, times));
                    }
                }
                Check.due("3 a bit field is one leaf", Check.answer(() -> x.addField(2, 'c', 22, 1)),
                        have < 40 ? (Object) 3L : "throws.IllegalStateException");
            }
        }
    }

    /** The same with fields of plain types and bit fields: 36 to 40 leaves and 1 to 4 more. */
    private static void atMostFortyLeavesOfPlainTypes() {
        for (int have = 36; have <= 40; have++) {
            for (int type : new int[] {0, 6, 7, 21, 36}) {
                for (int count = 1; count <= (type < 20 ? 4 : 1); count++) {
                    RecordLayouts x = withLeaves(9);
                    x.newRecord(1);
                    x.addField(2, 'a', 101, 4);
                    if (have > 36) {
                        x.addField(2, 'b', 7, have - 36);
                    }
                    int times = count;
                    Check.due("5 leaves", x.recordInfo(2, 5), have);
                    if (have + count <= 40) {
                        x.addField(2, 'c', type, count);
                        Check.due("3 " + have + " and " + count + " of type " + type, x.recordInfo(2, 5), have + count);
                    } else {
                        Check.state("3 " + have + " and " + count + " of type " + type, x,
                                () -> x.addField(2, 'c', type, times));
                    }
                }
            }
        }
    }

    /** "for each field in order and for each of its elements in order ... They are numbered from 0." */
    private static void leavesOfTheLastElement() {
        RecordLayouts x = withLeaves(10);
        x.newRecord(1);
        x.addField(2, 'f', 101, 4);
        Check.due("5 leaves", x.recordInfo(2, 5), 40);
        for (int leaf = 0; leaf < 40; leaf++) {
            int inner = leaf % 10;
            String path = "f[" + leaf / 10 + "]." + "abc".charAt(inner / 4) + "[" + inner % 4 + "]";
            Check.due("8 path of leaf " + leaf, firstBytes(x, leaf, path.length()), path);
            Check.due("7 offset of leaf " + leaf, x.leafInfo(2, leaf, 1), leaf);
        }
        Check.index("7 leaf 40", x, () -> x.leafInfo(2, 40, 0));
        Check.index("8 leaf 40", x, () -> x.pathByte(2, 40, 0));
    }

    private static String firstBytes(RecordLayouts x, int leaf, int length) {
        StringBuilder path = new StringBuilder();
        for (int i = 0; i < length; i++) {
            path.append((char) x.pathByte(2, leaf, i));
        }
        return path.toString();
    }

    /** "followed by '[', the number of the element (from 0) and ']' if the count is greater than 1" */
    private static void pathHasAnIndexIfCountIsGreaterThanOne() {
        RecordLayouts x = Bounds.records(8, "a:b;z:u8[2];", "z:%4;a:#0;m:#0[2];n:i64[4];o:i8;");
        String[] paths = {"z", "a.a", "a.z[0]", "a.z[1]", "m[0].a", "m[0].z[0]", "m[0].z[1]", "m[1].a", "m[1].z[0]",
            "m[1].z[1]", "n[0]", "n[1]", "n[2]", "n[3]", "o"};
        Check.due("5 leaves", x.recordInfo(1, 5), paths.length);
        for (int leaf = 0; leaf < paths.length; leaf++) {
            Check.due("8 path of leaf " + leaf, Check.path(x, 1, leaf), paths[leaf]);
        }
    }

    /** "Returns the byte; NONE if the path has no such byte." */
    private static void pathHasNoSuchByte() {
        String[] paths = {"q", "m[0].a", "m[0].z[0]", "m[0].z[1]"};
        for (int leaf = 0; leaf < paths.length; leaf++) {
            for (int index : Bounds.numbers()) {
                RecordLayouts x = Bounds.records(8, "a:b;z:u8[2];", "q:%4;m:#0[2];");
                int want = index >= 0 && index < paths[leaf].length() ? paths[leaf].charAt(index) : -1;
                Check.due("8 byte " + index + " of " + paths[leaf], x.pathByte(1, leaf, index), want);
            }
        }
    }

    /** "The alignment of a field is its natural alignment or the pack, whichever is smaller." */
    private static void alignmentOrPackWhicheverIsSmaller() {
        for (int pack : Bounds.PACKS) {
            for (int type = 0; type <= 36; type = type == 7 ? 21 : type + 1) {
                int bytes = type > 20 ? 2 : Bounds.PLAIN_BYTES[type];
                int align = Math.min(bytes, pack);
                RecordLayouts x = Bounds.records(pack, "a:b;");
                Check.due("5 alignment of a byte", x.recordInfo(0, 3), 1);
                x.addField(0, 'b', type, 1);
                String what = "type " + type + " pack " + pack;
                Check.due("6 offset behind one byte, " + what, x.fieldInfo(0, 1, 3), align);
                Check.due("5 alignment, " + what, x.recordInfo(0, 3), align);
                Check.due("5 size, " + what, x.recordInfo(0, 2), Bounds.up(align + bytes, align));
                Check.due("5 padding, " + what, x.recordInfo(0, 4), Bounds.up(align + bytes, align) - 1 - bytes);
                x.addField(0, 'c', 0, 1);
                Check.due("6 offset of a byte behind it", x.fieldInfo(0, 2, 3), align + bytes);
            }
        }
    }

    /** "... of a record its alignment", which its own pack has limited already. */
    private static void alignmentOfRecordsOrPack() {
        for (int inner : Bounds.PACKS) {
            for (int outer : Bounds.PACKS) {
                RecordLayouts x = Bounds.records(inner, "a:i64;b:i8;");
                Check.record(x, outer, "a:i8;b:#0;c:i8;");
                int align = Math.min(inner, outer);
                int size = Bounds.up(9, inner);
                String what = "pack " + inner + " in pack " + outer;
                Check.due("5 size of the inner record, " + what, x.recordInfo(0, 2), size);
                Check.due("6 offset of the inner record, " + what, x.fieldInfo(1, 1, 3), align);
                Check.due("6 its bytes, " + what, x.fieldInfo(1, 1, 5), size);
                Check.due("6 offset behind it, " + what, x.fieldInfo(1, 2, 3), align + size);
                Check.due("5 alignment, " + what, x.recordInfo(1, 3), align);
                Check.due("5 size, " + what, x.recordInfo(1, 2), Bounds.up(align + size + 1, align));
                Check.due("5 padding, " + what, x.recordInfo(1, 4), Bounds.up(align + size + 1, align) - 11);
            }
        }
    }

    /** "Fields are placed one after the other, beginning with offset 0". */
    private static void firstFieldAtZero() {
        for (int type : new int[] {0, 1, 2, 3, 4, 5, 6, 7, 21, 36, 100}) {
            RecordLayouts x = Bounds.records(8, "a:i64;b:i8;", "-");
            x.addField(1, 'a', type, 1);
            Check.due("6 offset of a first field of type " + type, x.fieldInfo(1, 0, 3), 0);
            Check.due("6 its bit", x.fieldInfo(1, 0, 4), 0);
            Check.due("7 offset of leaf 0", x.leafInfo(1, 0, 1), 0);
        }
    }

    /** "... and their unit has enough bits left: its bits follow those that are used." */
    private static void unitHasEnoughBitsLeft() {
        for (int first = 1; first <= 16; first++) {
            for (int second = 1; second <= 16; second++) {
                RecordLayouts x = Bounds.records(8, "-");
                x.addField(0, 'a', 20 + first, 1);
                x.addField(0, 'b', 20 + second, 1);
                boolean same = first + second <= 16;
                String what = first + " and " + second + " bits";
                Check.due("6 unit, " + what, x.fieldInfo(0, 1, 3), same ? 0 : 2);
                Check.due("6 lowest bit, " + what, x.fieldInfo(0, 1, 4), same ? first : 0);
                Check.due("7 unit of the leaf, " + what, x.leafInfo(0, 1, 1), same ? 0 : 2);
                Check.due("7 lowest bit of the leaf, " + what, x.leafInfo(0, 1, 2), same ? first : 0);
                Check.due("5 size, " + what, x.recordInfo(0, 2), same ? 2 : 4);
                Check.due("5 both bytes of a unit are no padding", x.recordInfo(0, 4), 0);
                int used = same ? first + second : second;
                for (int third = 16 - used; third <= 17 - used; third++) {
                    if (third >= 1 && third <= 16) {
                        x.addField(0, 'c', 20 + third, 1);
                        boolean fits = third == 16 - used;
                        Check.due("6 unit of a third, " + what, x.fieldInfo(0, 2, 3), (same ? 0 : 2) + (fits ? 0 : 2));
                        Check.due("6 its lowest bit, " + what, x.fieldInfo(0, 2, 4), fits ? used : 0);
                        x.undo();
                    }
                }
            }
        }
    }

    private static void bitFieldAt(String definition, int field, int offset, int bit) {
        for (int pack : new int[] {2, 4, 8}) {
            RecordLayouts x = Bounds.records(8, "k:b;a:%3;", "a:%3;k:b;");
            int r = Check.record(x, pack, definition);
            Check.due("6 unit of field " + field + " in " + definition, x.fieldInfo(r, field, 3), offset);
            Check.due("6 lowest bit of field " + field + " in " + definition, x.fieldInfo(r, field, 4), bit);
        }
    }

    /** "a bit field is placed in the unit of the field before it, if that is a bit field, too" */
    private static void unitOfTheFieldBefore() {
        bitFieldAt("a:%1;b:b;c:%1;", 2, 4, 0);
        bitFieldAt("a:%1;b:u16;c:%1;", 2, 4, 0);
        bitFieldAt("a:b;b:%1;", 1, 2, 0);
        bitFieldAt("a:b;b:%1;c:%1;", 2, 2, 1);
        // Neither the unit before the last one, though it has bits left, nor the last unit of a record inside.
        bitFieldAt("a:%9;b:%8;c:%8;", 2, 2, 8);
        bitFieldAt("a:%9;b:%8;c:%9;", 2, 4, 0);
        bitFieldAt("a:%2;b:%16;c:%2;", 2, 4, 0);
        bitFieldAt("a:#0;b:%1;", 1, 4, 0);
        bitFieldAt("a:#0[2];b:%1;c:%2;", 2, 8, 1);
        bitFieldAt("a:%1;b:#1;c:%1;", 2, 6, 0);
        RecordLayouts x = Bounds.records(1, "a:b;b:%1;c:b;d:%16;");
        Check.due("6 with pack 1 a unit at 1", x.fieldInfo(0, 1, 3), 1);
        Check.due("6 and one at 4", x.fieldInfo(0, 3, 3), 4);
        Check.due("5 size", x.recordInfo(0, 2), 6);
        Check.due("5 alignment", x.recordInfo(0, 3), 1);
        // A unit goes on after a field that was undone.
        x.newRecord(8);
        x.addField(1, 'a', 30, 1);
        x.addField(1, 'b', 0, 1);
        x.undo();
        x.addField(1, 'b', 26, 1);
        Check.due("6 the undone field is not before it", x.fieldInfo(1, 1, 4), 10);
    }

    /** A field that is placed where one was undone has its own unit and bit. */
    private static void placedWhereOneWasUndone() {
        RecordLayouts x = Bounds.records(8, "-");
        x.addField(0, 'a', 23, 1);
        x.undo();
        x.addField(0, 'a', 23, 1);
        Check.due("6 a first bit field again", x.fieldInfo(0, 0, 3), 0);
        Check.due("6 its lowest bit", x.fieldInfo(0, 0, 4), 0);
        Check.due("5 size", x.recordInfo(0, 2), 2);
        x.addField(0, 'b', 25, 1);
        Check.due("6 bits behind it", x.fieldInfo(0, 1, 4), 3);
        x.undo();
        x.addField(0, 'b', 1, 1);
        Check.due("6 a byte where there was a bit field", x.fieldInfo(0, 1, 4), 0);
        Check.due("7 its leaf", x.leafInfo(0, 1, 2), 0);
        Check.due("6 its offset", x.fieldInfo(0, 1, 3), 2);
        RecordLayouts y = new RecordLayouts();
        y.newRecord(8);
        y.addField(0, 'a', 6, 1);
        y.addField(0, 'b', 30, 1);
        y.undo();
        y.undo();
        y.undo();
        y.newRecord(2);
        y.addField(0, 'a', 22, 1);
        Check.due("6 a bit field of a record in place of another one", y.fieldInfo(0, 0, 3), 0);
        Check.due("5 its size", y.recordInfo(0, 2), 2);
        Check.due("5 its alignment", y.recordInfo(0, 3), 2);
        Check.due("5 its padding", y.recordInfo(0, 4), 0);
        Check.due("5 its leaves", y.recordInfo(0, 5), 1);
    }

    /** The leaves of a record have its units and bits, too. */
    private static void bitFieldInsideARecord() {
        RecordLayouts x = Bounds.records(8, "a:%3;b:%14;c:%2;", "z:%5;p:#0[2];q:%5;");
        int[][] want = {{25, 0, 0, 0}, {23, 2, 0, 1}, {34, 4, 0, 1}, {22, 4, 14, 1}, {23, 6, 0, 1}, {34, 8, 0, 1},
            {22, 8, 14, 1}, {25, 10, 0, 2}};
        for (int leaf = 0; leaf < want.length; leaf++) {
            for (int what = 0; what <= 3; what++) {
                Check.due("7 leaf " + leaf + " what " + what, x.leafInfo(1, leaf, what), want[leaf][what]);
            }
        }
        Check.due("5 size", x.recordInfo(1, 2), 12);
        Check.due("6 the lowest bit of a field that is no bit field", x.fieldInfo(1, 1, 4), 0);
    }

    /** "(1 without fields)" */
    private static void recordWithoutFields() {
        for (int pack : Bounds.PACKS) {
            RecordLayouts x = Bounds.records(pack, "-");
            int[] want = {pack, 0, 0, 1, 0, 0, 0};
            for (int what = 0; what <= 6; what++) {
                Check.due("5 what " + what + " without fields", x.recordInfo(0, what), want[what]);
            }
            Check.index("6 field 0 of none", x, () -> x.fieldInfo(0, 0, 0));
            Check.index("7 leaf 0 of none", x, () -> x.leafInfo(0, 0, 0));
            Check.index("8 leaf 0 of none", x, () -> x.pathByte(0, 0, 0));
            Check.due("9 no leaf has the empty path", x.findLeaf(0), RecordLayouts.NONE);
            x.addField(0, 'a', 6, 1);
            x.undo();
            for (int what = 0; what <= 6; what++) {
                Check.due("5 what " + what + " without fields again", x.recordInfo(0, what), want[what]);
            }
        }
    }

    /** "its size is the offset behind its last field or unit, rounded up to a multiple of its alignment" */
    private static void sizeIsRoundedUp() {
        for (int pack : Bounds.PACKS) {
            for (int count = 1; count <= 4; count++) {
                RecordLayouts x = Bounds.records(pack, "a:i64;b:i8[" + count + "];");
                Check.due("5 size with " + count + " bytes, pack " + pack, x.recordInfo(0, 2),
                        8 + Bounds.up(count, pack));
                x = Bounds.records(pack, "a:i32;b:u16[" + count + "];");
                Check.due("5 size with " + count + " u16, pack " + pack, x.recordInfo(0, 2),
                        Bounds.up(4 + 2 * count, Math.min(pack, 4)));
                x = Bounds.records(pack, "a:i8[" + count + "];");
                Check.due("5 size of bytes alone", x.recordInfo(0, 2), count);
            }
            RecordLayouts x = Bounds.records(pack, "a:i64;b:%1;");
            Check.due("5 size with a unit, pack " + pack, x.recordInfo(0, 2), 8 + Bounds.up(2, pack));
            x = Bounds.records(pack, "a:i64;b:%16;c:%16;d:%16;e:%16;");
            Check.due("5 size with four units", x.recordInfo(0, 2), 16);
        }
    }

    /** "the number of its bytes that belong to no leaf, where both bytes of a unit belong to its bit fields" */
    private static void padding() {
        RecordLayouts inner = Bounds.records(8, "p:i8;q:%2;r:i64;s:%2;t:b;");
        Check.due("5 size of the inner record", inner.recordInfo(0, 2), 24);
        Check.due("5 its padding", inner.recordInfo(0, 4), 24 - 1 - 2 - 8 - 2 - 1);
        String[] definitions = {"a:b;", "a:%1;", "a:%1;b:b;", "a:b;b:%1;", "a:i8;b:i64;", "a:i64;b:i8;",
                "a:%1;b:%16;c:%1;",
            "a:i8;b:i16;c:i32;d:i64;", "a:#0;", "a:#0[4];", "a:i8;b:#0[2];c:%3;", "a:i32[3];b:u8[3];"};
        int[] want = {0, 0, 1, 1, 7, 7, 0, 1, 10, 40, 7 + 20 + 6, 1};
        for (int i = 0; i < definitions.length; i++) {
            RecordLayouts x = Bounds.records(8, "p:i8;q:%2;r:i64;s:%2;t:b;", definitions[i]);
            Check.due("5 padding of " + definitions[i], x.recordInfo(1, 4), want[i]);
        }
    }

    /** "A record is in use if it is the type of a field, or the record of a table." */
    private static void inUse() {
        RecordLayouts x = Bounds.records(8, "a:b;", "a:#0;", "a:#1;", "a:b;");
        int[] want = {1, 1, 0, 0};
        for (int r = 0; r < 4; r++) {
            Check.due("5 in use as a type, record " + r, x.recordInfo(r, 6), want[r]);
        }
        x.newTable(3, 1, 0, 0);
        x.newTable(3, 2, 1, 1);
        x.newTable(0, 2, 1, 1);
        Check.due("5 in use by two tables", x.recordInfo(3, 6), 1);
        x.removeTable(0);
        Check.due("5 in use by one table still", x.recordInfo(3, 6), 1);
        x.removeTable(1);
        Check.due("5 in use by none", x.recordInfo(3, 6), 0);
        x.removeTable(2);
        Check.due("5 without the table still the type of a field", x.recordInfo(0, 6), 1);
        x.newTable(2, 1, 0, 0);
        Check.due("5 the table's record", x.recordInfo(2, 6), 1);
        x.migrate(0, 3, 0);
        Check.due("5 no longer after migrate", x.recordInfo(2, 6), 0);
        Check.due("5 but the new one is", x.recordInfo(3, 6), 1);
        x.undo();
        Check.due("5 again after undo", x.recordInfo(2, 6), 1);
        Check.due("5 and the new one is not", x.recordInfo(3, 6), 0);
    }

    /** "Throws IllegalStateException if the record ... is in use" */
    private static void usedRecordTakesNoField() {
        RecordLayouts x = Bounds.records(8, "a:b;", "a:#0;", "a:#1;");
        Check.state("3 the type of a field", x, () -> x.addField(0, 'b', 0, 1));
        Check.state("3 the type of a field that has fields of records", x, () -> x.addField(1, 'b', 0, 1));
        Check.due("3 the outermost one is not in use", x.addField(2, 'b', 0, 1), 2);
        x.newTable(2, 1, 0, 0);
        Check.state("3 the record of a table", x, () -> x.addField(2, 'c', 0, 1));
        x.newTable(2, 1, 0, 0);
        x.removeTable(0);
        Check.state("3 the record of another table still", x, () -> x.addField(2, 'c', 0, 1));
        x.removeTable(1);
        Check.due("3 no longer", x.addField(2, 'c', 0, 1), 3);
    }

    // ---- promises 5 to 11

    /** "Throws IndexOutOfBoundsException if there is no such record": 3 records of 6. */
    private static void numbersOfRecords() {
        for (int many = 0; many <= 6; many++) {
            String[] definitions = new String[many];
            for (int i = 0; i < many; i++) {
                definitions[i] = "a:b;";
            }
            int records = many;
            List<Bounds.CallWith> calls = new ArrayList<>(List.of((x, r) -> x.recordInfo(r, 0),
                (x, r) -> x.fieldInfo(r, 0, 0), (x, r) -> x.leafInfo(r, 0, 0), (x, r) -> x.pathByte(r, 0, 0),
                (x, r) -> x.findLeaf(r), (x, r) -> x.bestSize(r), (x, r) -> x.bestOrder(r, 0),
                (x, r) -> x.addField(r, 'b', 0, 1), (x, r) -> x.newTable(r, 1, 0, 0)));
            for (int i = 0; i < calls.size(); i++) {
                Bounds.range(i + " record of " + many, IndexOutOfBoundsException.class, r -> r >= 0 && r < records,
                        () -> Bounds.records(8, definitions), calls.get(i));
            }
        }
        RecordLayouts x = Bounds.records(8, "a:b;", "a:b;");
        x.undo();
        Check.index("5 a record that was undone", x, () -> x.recordInfo(1, 0));
        Check.index("10 a record that was undone", x, () -> x.bestSize(1));
    }

    /** "... if there is no such record or field", "... or leaf", "... or position" */
    private static void numbersOfFieldsAndLeaves() {
        Bounds.range("6 field", IndexOutOfBoundsException.class, f -> f >= 0 && f < 3,
                () -> Bounds.records(8, "a:b;b:i8[4];c:%2;"), (x, f) -> x.fieldInfo(0, f, 0));
        Bounds.range("6 field of eight", IndexOutOfBoundsException.class, f -> f >= 0 && f < 8,
                () -> Bounds.records(8, "a:b;b:b;c:b;d:b;e:b;f:b;g:b;h:b;"), (x, f) -> x.fieldInfo(0, f, 5));
        Bounds.range("7 leaf", IndexOutOfBoundsException.class, k -> k >= 0 && k < 6,
                () -> Bounds.records(8, "a:b;b:i8[4];c:%2;"), (x, k) -> x.leafInfo(0, k, 0));
        Bounds.range("8 leaf", IndexOutOfBoundsException.class, k -> k >= 0 && k < 6,
                () -> Bounds.records(8, "a:b;b:i8[4];c:%2;"), (x, k) -> x.pathByte(0, k, 0));
        Bounds.range("11 position", IndexOutOfBoundsException.class, p -> p >= 0 && p < 3,
                () -> Bounds.records(8, "a:b;b:i8[4];c:%2;"), (x, p) -> x.bestOrder(0, p));
        Bounds.range("11 position of eight", IndexOutOfBoundsException.class, p -> p >= 0 && p < 8,
                () -> Bounds.records(8, "a:b;b:b;c:b;d:b;e:b;f:b;g:b;h:b;"), (x, p) -> x.bestOrder(0, p));
        Bounds.range("11 position of none", IndexOutOfBoundsException.class, p -> false,
                () -> Bounds.records(8, "-"), (x, p) -> x.bestOrder(0, p));
    }

    /** "Throws IllegalArgumentException if what is out of range" */
    private static void numbersOfWhat() {
        Bounds.range("5 what", IllegalArgumentException.class, w -> w >= 0 && w <= 6,
                () -> Bounds.records(8, "a:b;"), (x, w) -> x.recordInfo(0, w));
        Bounds.range("6 what", IllegalArgumentException.class, w -> w >= 0 && w <= 5,
                () -> Bounds.records(8, "a:b;"), (x, w) -> x.fieldInfo(0, 0, w));
        Bounds.range("7 what", IllegalArgumentException.class, w -> w >= 0 && w <= 3,
                () -> Bounds.records(8, "a:b;"), (x, w) -> x.leafInfo(0, 0, w));
    }

    private static void found(String text, int leaf) {
        RecordLayouts x = Bounds.records(8, "a:b;z:u8[2];", "a:%4;z:#0;m:#0[2];n:i64[3];");
        Check.write(x, text);
        Check.due("9 leaf with the path '" + text + "'", x.findLeaf(1), leaf);
    }

    /** "Returns the number of the leaf; NONE if there is none." */
    private static void findLeafIsTheWholePath() {
        String[] paths = {"a", "z.a", "z.z[0]", "z.z[1]", "m[0].a", "m[0].z[0]", "m[0].z[1]", "m[1].a", "m[1].z[0]",
            "m[1].z[1]", "n[0]", "n[1]", "n[2]"};
        List<String> all = List.of(paths);
        for (int leaf = 0; leaf < paths.length; leaf++) {
            found(paths[leaf], leaf);
            for (int length = 0; length < paths[leaf].length(); length++) {
                String text = paths[leaf].substring(0, length);
                found(text, all.indexOf(text));
                char other = (char) (paths[leaf].charAt(length) ^ 1);
                text = text + other + paths[leaf].substring(length + 1);
                found(text, all.indexOf(text));
            }
            for (char more : "\u0000a.[0]\u007f".toCharArray()) {
                found(paths[leaf] + more, all.indexOf(paths[leaf] + more));
                found(more + paths[leaf], all.indexOf(more + paths[leaf]));
            }
        }
        for (String text : new String[] {"", "n", "n[3]", "n[4]", "n[-1]", "n[00]", "n[0", "n0]", "a[0]", "z[0].a",
                "z.",
            "m.a", "m[2].a", "b", "A", " a", "a ", "\u0000", "z.z", "a".repeat(80), "m[0].a" + "\u0000".repeat(74)}) {
            found(text, RecordLayouts.NONE);
        }
    }

    /** "Returns the smallest size that the record can have", with no order to choose. */
    private static void bestOfNoneAndOne() {
        RecordLayouts x = Bounds.records(8, "-");
        Check.due("10 without fields", x.bestSize(0), 0);
        Check.index("11 without fields", x, () -> x.bestOrder(0, 0));
        for (int type : new int[] {0, 2, 4, 6, 7, 21, 36, 100}) {
            RecordLayouts y = Bounds.records(4, "a:i64;b:i8;", "-");
            y.addField(1, 'a', type, 1);
            Check.due("10 of one field of type " + type, y.bestSize(1), y.recordInfo(1, 2));
            Check.due("11 of one field", y.bestOrder(1, 0), 0);
        }
    }

    private static void best(int pack, String definition, int size, int... order) {
        RecordLayouts x = Bounds.records(8, "p:i64;q:i8;", "p:%3;q:i16;");
        int r = Check.record(x, pack, definition);
        Check.due("10 best size of " + definition, x.bestSize(r), size);
        for (int i = 0; i < order.length; i++) {
            Check.due("11 best order of " + definition + " at " + i, x.bestOrder(r, i), order[i]);
        }
    }

    /** Eight fields, of which the best order is a far one. */
    private static void bestOfEight() {
        best(8, "a:i8;b:i64;c:i8;d:i64;e:i8;f:i64;g:i8;h:i64;", 40, 0, 2, 4, 6, 1, 3, 5, 7);
        best(8, "a:i64;b:i8;c:i64;d:i8;e:i64;f:i8;g:i64;h:i8;", 40, 0, 1, 3, 5, 7, 2, 4, 6);
        best(8, "a:%9;b:%9;c:%9;d:%9;e:%7;f:%7;g:%7;h:%7;", 8, 0, 4, 1, 5, 2, 6, 3, 7);
        best(8, "a:%15;b:%14;c:%13;d:%12;e:%4;f:%3;g:%2;h:%1;", 8, 0, 7, 1, 6, 2, 5, 3, 4);
        best(1, "a:i8;b:i64;c:i8;d:i64;e:i8;f:i64;g:i8;h:i64;", 36, 0, 1, 2, 3, 4, 5, 6, 7);
    }

    /** "of all orders with the smallest size the lexicographically smallest one by the numbers of the fields" */
    private static void bestIsTheLexicographicallySmallest() {
        best(8, "z:i8;y:i8;x:i8;", 3, 0, 1, 2);
        best(8, "a:i64;b:i32;c:i16;d:i8;", 16, 0, 1, 2, 3);
        best(8, "a:i8;b:i16;c:i32;d:i64;", 16, 0, 1, 2, 3);
        best(8, "a:i8;b:i32;c:i8;d:i32;", 12, 0, 2, 1, 3);
        best(8, "a:i32;b:i8;c:i32;d:i8;", 12, 0, 1, 3, 2);
        best(8, "a:i8;b:i64;c:i32;", 16, 0, 2, 1);
        best(2, "a:i8;b:i64;c:i32;d:i8;", 14, 0, 3, 1, 2);
        // 3 bytes and then 1, or 4 bytes with a gap: the record is 8 bytes in both orders.
        best(8, "a:i8[3];b:i32;", 8, 0, 1);
        best(8, "a:i8;b:#1;c:i8;", 6, 0, 2, 1);
        best(8, "a:%8;b:i8;c:%8;d:i8;", 4, 0, 2, 1, 3);
        best(8, "a:i8;b:%8;c:i8;d:%8;", 4, 0, 2, 1, 3);
        best(8, "a:%1;b:i8;c:%15;d:i64;", 16, 0, 1, 2, 3);
        best(8, "a:%1;b:%16;c:%15;", 4, 0, 2, 1);
        best(8, "a:%1;b:%1;c:%16;d:%14;", 4, 0, 1, 3, 2);
    }

    /** The best order follows the fields that the record has now. */
    private static void bestAfterChanges() {
        RecordLayouts x = Bounds.records(8, "a:i8;b:i64;", "a:i8;b:i16;c:i8;");
        Check.due("10 record 0", x.bestSize(0), 16);
        Check.due("10 record 1", x.bestSize(1), 4);
        Check.due("11 record 0", x.bestOrder(0, 1), 1);
        Check.due("11 record 1", x.bestOrder(1, 1), 2);
        Check.due("10 record 0 again", x.bestSize(0), 16);
        x.addField(0, 'c', 0, 1);
        Check.due("11 record 0 with one more", x.bestOrder(0, 1), 2);
        Check.due("10 record 0 with one more", x.bestSize(0), 16);
        x.addField(0, 'd', 6, 1);
        Check.due("10 record 0 with two more", x.bestSize(0), 24);
        x.undo();
        Check.due("10 record 0 without the second one", x.bestSize(0), 16);
        x.undo();
        Check.due("11 record 0 without it", x.bestOrder(0, 1), 1);
        Check.index("11 and no position 2", x, () -> x.bestOrder(0, 2));
        x.undo();
        x.newRecord(8);
        x.addField(1, 'q', 6, 4);
        Check.due("10 another record 1", x.bestSize(1), 32);
        Check.due("11 another record 1", x.bestOrder(1, 0), 0);
    }
}
