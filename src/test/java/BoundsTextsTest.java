/** One test for each sentence of TEXTS, and of promises 12 to 14, that names a boundary case. */
public final class BoundsTextsTest {
    private static final String[] PLAIN = {"i8", "u8", "i16", "u16", "i32", "u32", "i64", "b"};

    public static void main(String[] args) {
        byteOfATextIsBelow128();
        atMostEightyBytes();
        eightyBytesAsADefinition();
        initiallyEmpty();
        clearAndAppend();
        everyTypeWithEveryCount();
        everyWidth();
        digitOfARecord();
        digitOfARecordAmongMany();
        digitOfACount();
        bracketBehindABitField();
        everyByteAsAName();
        nameForASecondTime();
        nameOfANinthField();
        everyByteBehindAName();
        everyByteAsAType();
        everyByteBehindAType();
        textEndsTooEarly();
        atLeastOneField();
        tooManyLeaves();
        tooManyLeavesByABitField();
        tooManyLeavesAreNotSeenBefore();
        firstErrorCounts();
        textStays();
        nothingChangesByAnError();
        definesTheSixthRecord();
        everyChangeOfADefinition();
        Check.finish();
    }

    /** "the byte, 0 to 127" */
    private static void byteOfATextIsBelow128() {
        Bounds.range("12 byte", IllegalArgumentException.class, b -> b >= 0 && b <= 127,
                RecordLayouts::new, (x, b) -> x.append(b));
        Bounds.range("12 the last byte", IllegalArgumentException.class, b -> b >= 0 && b <= 127,
                () -> Bounds.written("q".repeat(79)), (x, b) -> x.append(b));
        for (int b = 0; b <= 127; b++) {
            RecordLayouts x = Bounds.records(8, "a:b;");
            Check.due("12 append " + b, x.append(b), 1);
            Check.due("9 findLeaf of the byte " + b, x.findLeaf(0), b == 'a' ? 0 : -1);
        }
    }

    /** "There is a text of at most 80 bytes", "Throws IllegalStateException if the text has 80 bytes" */
    private static void atMostEightyBytes() {
        RecordLayouts x = new RecordLayouts();
        for (int i = 1; i <= 80; i++) {
            Check.due("12 length afterwards", x.append(i % 128), i);
        }
        for (int value : new int[] {0, 97, 127}) {
            Check.state("12 an 81st byte " + value, x, () -> x.append(value));
        }
        for (int value : new int[] {-1, 128, Integer.MAX_VALUE, Integer.MIN_VALUE}) {
            Check.argument("12 a full text and " + value, x, () -> x.append(value));
        }
        Check.due("13 a full text", x.clearText(), 80);
        Check.due("12 after it was emptied", x.append(0), 1);
    }

    /** All 80 bytes are read as a definition: 8 fields in 72 bytes, and then none can stand. */
    private static void eightyBytesAsADefinition() {
        StringBuilder text = new StringBuilder();
        for (int i = 0; i < 8; i++) {
            text.append((char) ('s' + i)).append(":i16[2];");
        }
        RecordLayouts x = new RecordLayouts();
        Check.write(x, text.toString());
        Check.due("14 eight fields in 72 bytes", x.define(8), 0);
        for (int i = 73; i <= 80; i++) {
            Check.due("12 append", x.append('a'), i);
        }
        Check.due("14 a ninth name behind 72 bytes", x.define(8), -82);
        Check.write(x, "i".repeat(79));
        Check.due("14 79 bytes of nonsense", x.define(8), -11);
        Check.write(x, text.substring(9) + "a:i16[");
        Check.due("14 69 bytes", x.define(8), -79);
    }

    /** "initially empty" */
    private static void initiallyEmpty() {
        RecordLayouts x = new RecordLayouts();
        Check.due("14 define of nothing", x.define(8), -10);
        Check.due("13 clearText of nothing", x.clearText(), 0);
        Check.due("12 the first byte", x.append('a'), 1);
    }

    /** "Returns the length that it had." */
    private static void clearAndAppend() {
        RecordLayouts x = Bounds.records(8, "a:b;b:i8;");
        for (int length : new int[] {0, 1, 2, 79, 80}) {
            Check.write(x, "b".repeat(length));
            Check.due("9 before clearText", x.findLeaf(0), length == 1 ? 1 : -1);
            Check.due("13 length", x.clearText(), length);
            Check.due("13 empty now", x.clearText(), 0);
            x.append('a');
            Check.due("9 nothing of the old text is left", x.findLeaf(0), 0);
        }
    }

    /** "A type is i8, u8, i16, u16, i32, u32, i64, b, '#' ...", "perhaps '[' with a digit and ']'" */
    private static void everyTypeWithEveryCount() {
        for (int type = 0; type <= 8; type++) {
            String word = type == 8 ? "#0" : PLAIN[type];
            for (int count = 0; count <= 4; count++) {
                RecordLayouts x = Bounds.records(8, "a:i64;b:b;");
                Check.write(x, "q:" + word + (count == 0 ? "" : "[" + count + "]") + ";");
                Check.due("14 " + word + " with " + count, x.define(2), 1);
                int[] want = {'q', type == 8 ? 100 : type, Math.max(count, 1), 0, 0};
                for (int what = 0; what < 5; what++) {
                    Check.due("14 " + word + " field " + what, x.fieldInfo(1, 0, what), want[what]);
                }
                Check.due("14 pack", x.recordInfo(1, 0), 2);
                Check.due("14 one field", x.recordInfo(1, 1), 1);
            }
        }
    }

    /** "with a number from 1 to 16 (without leading zeros)", "a digit by which a number becomes greater than 16" */
    private static void everyWidth() {
        for (int width = 0; width <= 199; width++) {
            String digits = Integer.toString(width);
            // From 100 to 169 the first two digits are a number from 10 to 16, and the third one makes it greater.
            int error = width == 0 ? 3 : width <= 16 ? -1 : width < 100 || width > 169 ? 4 : 5;
            readsWidth(digits, width >= 1 && width <= 16 ? width : 0, error);
        }
        for (String digits : new String[] {"00", "01", "09", "010", "016", "0"}) {
            readsWidth(digits, 0, 3);
        }
        for (String digits : new String[] {"200", "999", "20", "90"}) {
            readsWidth(digits, 0, 4);
        }
        readsWidth("1 ", 0, 4);
        readsWidth("1-", 0, 4);
        readsWidth("16 ", 0, 5);
        readsWidth("1.6", 0, 4);
        readsWidth("", 0, 3);
        readsWidth("/", 0, 3);
        readsWidth(":", 0, 3);
        readsWidth("1/", 0, 4);
        readsWidth("1:", 0, 4);
    }

    private static void readsWidth(String digits, int width, int error) {
        RecordLayouts x = new RecordLayouts();
        Check.write(x, "a:%" + digits + ";");
        if (width > 0) {
            Check.due("14 width " + digits, x.define(8), 0);
            Check.due("14 type with width " + digits, x.fieldInfo(0, 0, 1), 20 + width);
        } else {
            Check.due("14 width " + digits, x.define(8), -10 - error);
            Check.due("14 no record", x.records(), 0);
        }
    }

    /** "the digit of a record that does not exist or has no fields" */
    private static void digitOfARecord() {
        for (int digit = 0; digit <= 9; digit++) {
            for (String count : new String[] {"", "[1]", "[4]"}) {
                RecordLayouts x = Bounds.records(8, "a:b;", "-", "a:i8;b:b;", "-");
                Check.write(x, "z:#" + digit + count + ";");
                if (digit == 0 || digit == 2) {
                    Check.due("14 record " + digit, x.define(8), 4);
                    Check.due("14 its type", x.fieldInfo(4, 0, 1), 100 + digit);
                } else {
                    Check.due("14 record " + digit, x.define(8), -13);
                }
            }
        }
        RecordLayouts x = Bounds.records(8, "-");
        Check.write(x, "z:#0;");
        Check.due("14 a record without fields", x.define(8), -13);
        x.addField(0, 'a', 0, 1);
        Check.due("14 now it has one", x.define(8), 1);
        x.undo();
        x.undo();
        Check.due("14 and no longer", x.define(8), -13);
        x.undo();
        Check.due("14 the record does not even exist", x.define(8), -13);
        RecordLayouts y = Bounds.records(8, "a:b;", "a:b;");
        Check.write(y, "z:#1;");
        y.undo();
        Check.due("14 a record that was undone with its fields", y.define(8), -13);
        y.newRecord(8);
        Check.due("14 a new one in its place", y.define(8), -13);
    }

    /** With 5 records the digits 0 to 4 can stand, and never that of the record itself. */
    private static void digitOfARecordAmongMany() {
        for (int many = 0; many <= 5; many++) {
            for (int digit = 0; digit <= 9; digit++) {
                RecordLayouts x = new RecordLayouts();
                for (int i = 0; i < many; i++) {
                    Check.record(x, 8, "a:b;");
                }
                Check.write(x, "k:i8;z:#" + digit + ";");
                Check.due("14 record " + digit + " of " + many, x.define(8), digit < many ? many : -18);
            }
        }
    }

    /** "the digit 0 or 5 to 9 as a count" */
    private static void digitOfACount() {
        for (int sign = 0; sign <= 127; sign++) {
            for (String word : new String[] {"i8", "b", "u32", "#0"}) {
                RecordLayouts x = Bounds.records(8, "a:b;");
                Check.write(x, "z:" + word + "[" + (char) sign + "];");
                boolean fine = sign >= '1' && sign <= '4';
                Check.due("14 count " + sign + " of " + word, x.define(8), fine ? 1 : -10 - 3 - word.length());
                if (fine) {
                    Check.due("14 the count", x.fieldInfo(1, 0, 2), sign - '0');
                    Check.write(x, "z:" + word + "[" + (char) sign + "0];");
                    Check.due("14 a second digit of the count", x.define(8), -10 - 4 - word.length());
                }
            }
        }
    }

    /** "a '[' behind a bit field" */
    private static void bracketBehindABitField() {
        for (int width = 1; width <= 16; width++) {
            for (int count = 0; count <= 9; count++) {
                RecordLayouts x = new RecordLayouts();
                Check.write(x, "a:%" + width + "[" + count + "];");
                Check.due("14 [" + count + "] behind %" + width, x.define(8), width < 10 ? -14 : -15);
            }
            RecordLayouts x = new RecordLayouts();
            Check.write(x, "a:%" + width + "[");
            Check.due("14 a [ at the end behind %" + width, x.define(8), width < 10 ? -14 : -15);
        }
    }

    /** "a letter (its name)": from a to z, as the first and as the eighth field. */
    private static void everyByteAsAName() {
        for (int sign = 0; sign <= 127; sign++) {
            RecordLayouts x = new RecordLayouts();
            boolean letter = sign >= 'a' && sign <= 'z';
            Check.write(x, (char) sign + ":b;");
            Check.due("14 name " + sign, x.define(8), letter ? 0 : -10);
            RecordLayouts y = new RecordLayouts();
            Check.write(y, "t:b;u:b;v:b;w:b;x:b;y:b;z:b;" + (char) sign + ":b;");
            Check.due("14 eighth name " + sign, y.define(8), letter && sign < 't' ? 0 : -38);
            if (letter) {
                Check.due("14 the name", x.fieldInfo(0, 0, 0), sign);
            }
        }
    }

    /** "a name for a second time" */
    private static void nameForASecondTime() {
        String fields = "q:b;c:i8;m:%2;a:b;z:b;k:b;d:b;";
        for (int before = 1; before <= 7; before++) {
            int length = before < 3 ? 4 + 5 * (before - 1) : before * 4 + 2;
            for (int sign = 'a'; sign <= 'z'; sign++) {
                RecordLayouts x = new RecordLayouts();
                Check.write(x, fields.substring(0, length) + (char) sign + ":b;");
                boolean taken = "qcmazkd".substring(0, before).indexOf(sign) >= 0;
                Check.due("14 name " + (char) sign + " behind " + before, x.define(8), taken ? -10 - length : 0);
            }
        }
        RecordLayouts x = new RecordLayouts();
        Check.write(x, "a:b;b:b;a");
        Check.due("14 at the end of the text, too", x.define(8), -18);
        Check.write(x, "a:b;");
        x.define(8);
        Check.due("14 the names of another record do not count", x.define(8), 1);
    }

    /** "a name of a ninth field" */
    private static void nameOfANinthField() {
        String eight = "a:b;b:b;c:b;d:b;e:b;f:b;g:b;h:b;";
        RecordLayouts x = new RecordLayouts();
        Check.write(x, eight);
        Check.due("14 eight fields", x.define(8), 0);
        Check.due("14 eight fields", x.recordInfo(0, 1), 8);
        for (int sign = 0; sign <= 127; sign++) {
            RecordLayouts y = new RecordLayouts();
            Check.write(y, eight + (char) sign);
            Check.due("14 a ninth name " + sign, y.define(8), -42);
        }
    }

    /** A letter is followed by ":" and nothing else. */
    private static void everyByteBehindAName() {
        for (int sign = 0; sign <= 127; sign++) {
            RecordLayouts x = new RecordLayouts();
            Check.write(x, "a" + (char) sign + "b;");
            Check.due("14 behind a name " + sign, x.define(8), sign == ':' ? 0 : -11);
        }
    }

    /** Which bytes can begin a type, and which can follow there. */
    private static void everyByteAsAType() {
        for (int sign = 0; sign <= 127; sign++) {
            char c = (char) sign;
            typeError("" + c + "?", "iub#%".indexOf(c) < 0 ? 2 : 3);
            typeError("i" + c + "?", "8136".indexOf(c) < 0 ? 3 : 4);
            typeError("u" + c + "?", "813".indexOf(c) < 0 ? 3 : 4);
            typeError("i1" + c + "?", c == '6' ? 5 : 4);
            typeError("u1" + c + "?", c == '6' ? 5 : 4);
            typeError("i3" + c + "?", c == '2' ? 5 : 4);
            typeError("u3" + c + "?", c == '2' ? 5 : 4);
            typeError("i6" + c + "?", c == '4' ? 5 : 4);
            typeError("#" + c + "?", c == '0' ? 4 : 3);
            typeError("%" + c + "?", c >= '1' && c <= '9' ? 4 : 3);
            typeError("%1" + c + "?", c >= '0' && c <= '6' ? 5 : c == ';' ? 5 : 4);
            typeError("%2" + c + "?", c == ';' ? 5 : 4);
        }
    }

    private static void typeError(String type, int position) {
        RecordLayouts x = Bounds.records(8, "a:b;", "-");
        Check.write(x, "a:" + type);
        Check.due("14 define of a:" + type, x.define(8), -10 - position);
    }

    /** ";" or "[", and behind a count "]" and ";". */
    private static void everyByteBehindAType() {
        for (int sign = 0; sign <= 127; sign++) {
            char c = (char) sign;
            for (String type : new String[] {"i8", "u16", "i32", "i64", "b", "#0"}) {
                int at = 2 + type.length();
                typeError(type + c + "?", c == ';' || c == '[' ? at + 1 : at);
                typeError(type + "[2" + c + "?", c == ']' ? at + 3 : at + 2);
                typeError(type + "[2]" + c + "?", c == ';' ? at + 4 : at + 3);
            }
        }
    }

    /** "or the length of the text if the text ends too early" */
    private static void textEndsTooEarly() {
        String text = "a:i8;b:%12;c:#0[3];d:u32[2];e:b;f:i64;g:%7;h:i16;";
        for (int length = 0; length <= text.length(); length++) {
            RecordLayouts x = Bounds.records(8, "a:b;");
            String part = text.substring(0, length);
            Check.write(x, part);
            boolean whole = part.endsWith(";");
            Check.due("14 define of " + part, x.define(8), whole ? 1 : -10 - length);
            Check.due("14 records after " + part, x.records(), whole ? 2 : 1);
        }
    }

    /** "it is a sequence of at least one field" */
    private static void atLeastOneField() {
        RecordLayouts x = new RecordLayouts();
        Check.due("14 no field", x.define(8), -10);
        Check.write(x, ";");
        Check.due("14 a ; alone", x.define(8), -10);
        Check.write(x, "a:b;");
        Check.due("14 one field", x.define(8), 0);
        Check.due("14 one field", x.recordInfo(0, 1), 1);
        x.clearText();
        Check.due("14 no field again", x.define(8), -10);
    }

    private static RecordLayouts withTen() {
        return Bounds.records(8, "a:i8[4];b:i8[4];c:i8[2];", "a:b;");
    }

    private static void leavesOf(String text, int answer) {
        RecordLayouts x = withTen();
        Check.write(x, text);
        long before = x.digest();
        Check.due("14 define of " + text, x.define(8), answer);
        if (answer < 0) {
            Check.due("14 nothing changes by " + text, x.digest(), before);
        }
    }

    /** "a ';' by which the record would have more than 40 leaves" */
    private static void tooManyLeaves() {
        leavesOf("a:#0[4];", 2);
        leavesOf("a:#0[3];b:i8[4];c:i8[4];d:#1[2];", 2);
        leavesOf("a:#0[3];b:i8[4];c:i8[4];d:#1[3];", -10 - 31);
        leavesOf("a:#0[3];b:i8[4];c:i8[4];d:#1[3];e:b;", -10 - 31);
        leavesOf("a:#0[4];b:b;", -10 - 11);
        leavesOf("a:#0[4];b:#1;", -10 - 12);
        leavesOf("a:#0[4];b:#1[4];", -10 - 15);
        leavesOf("a:#0[4];b:#0[4];", -10 - 15);
        leavesOf("a:b;b:#0[4];", -10 - 11);
        leavesOf("a:#0;b:#0;c:#0;d:#0;", 2);
        leavesOf("a:#0;b:#0;c:#0;d:#0;e:b;", -10 - 23);
        leavesOf("a:#0;b:#0;c:#0;d:b;e:#0;", -10 - 23);
    }

    private static void tooManyLeavesByABitField() {
        leavesOf("a:#0[3];b:#1[4];c:#1[4];d:%1;e:%2;", 2);
        leavesOf("a:#0[3];b:#1[4];c:#1[4];d:%1;e:%2;f:%3;", -10 - 38);
        leavesOf("a:#0[4];b:%16;", -10 - 13);
    }

    /** Before that ";" all can stand, and another byte in its place cannot, anyway. */
    private static void tooManyLeavesAreNotSeenBefore() {
        String text = "a:#0[4];b:#0[4]";
        for (int length = 9; length <= text.length(); length++) {
            leavesOf(text.substring(0, length), -10 - length);
        }
        leavesOf(text + "]", -10 - 15);
        leavesOf("a:#0[4];b:#0[5];", -10 - 13);
        leavesOf("a:#0[4];b:#2;", -10 - 11);
        leavesOf("a:#0[4];a:b;", -10 - 8);
    }

    /** "the index of the first byte that cannot stand where it stands" */
    private static void firstErrorCounts() {
        leavesOf("a:b;a:%17;?", -10 - 4);
        leavesOf("a:%17;a:b;", -10 - 4);
        leavesOf("A:#9;", -10);
        leavesOf("a:#9[9];", -10 - 3);
        leavesOf("a:b[0];b:#9;", -10 - 4);
        leavesOf("a:%5[0];", -10 - 4);
        leavesOf("a:b;b:b;c:b;d:b;e:b;f:b;g:b;h:b;a:b;", -10 - 32);
    }

    /** "The text stays." */
    private static void textStays() {
        RecordLayouts x = new RecordLayouts();
        Check.write(x, "a:i16;b:b;");
        for (int i = 0; i < 6; i++) {
            Check.due("14 define again", x.define(8), i);
            Check.due("14 its size", x.recordInfo(i, 2), 4);
        }
        Check.state("14 a seventh time", x, () -> x.define(8));
        Check.due("13 the text is as long as before", x.clearText(), 10);
        Check.write(x, "a?");
        x.undo();
        Check.due("14 an error", x.define(8), -11);
        Check.due("14 the same error", x.define(8), -11);
        Check.due("13 the text is as long as before", x.clearText(), 2);
    }

    /**
     * "-10 minus the syntax error position if there is a syntax error (then nothing changes)", "Undoable, unless ..."
     */
    private static void nothingChangesByAnError() {
        RecordLayouts x = Bounds.records(8, "a:b;");
        Check.write(x, "a:i8;b:i9;");
        long before = x.digest();
        for (int i = 0; i < 5; i++) {
            Check.due("14 an error", x.define(8), -18);
        }
        Check.due("14 nothing changes", x.digest(), before);
        Check.due("14 the only state is that before the record", x.undo(), 0);
        Check.due("14 no record", x.records(), 0);
        Check.state("14 no state is left", x, () -> x.undo());
        // The fields that were read before the error leave nothing behind.
        x.newRecord(8);
        Check.due("14 no fields", x.recordInfo(0, 1), 0);
        Check.due("14 no leaves", x.recordInfo(0, 5), 0);
    }

    /** "Throws IllegalStateException if there are 6 records": with 5 it does not. */
    private static void definesTheSixthRecord() {
        for (String text : new String[] {"a:b;", "", "?", "a:#9;"}) {
            RecordLayouts x = Bounds.records(8, "a:b;", "a:b;", "a:b;", "a:b;", "a:b;");
            Check.write(x, text);
            int error = text.equals("a:#9;") ? 3 : 0;
            Check.due("14 with 5 records", x.define(8), text.equals("a:b;") ? 5 : -10 - error);
            if (x.records() < 6) {
                x.newRecord(1);
            }
            Check.state("14 with 6 records and the text " + text, x, () -> x.define(8));
            Check.argument("14 the argument first, with the text " + text, x, () -> x.define(3));
        }
        RecordLayouts x = new RecordLayouts();
        Check.argument("14 the argument before the syntax error", x, () -> x.define(0));
    }

    /** Each byte of a definition is left out, doubled or replaced by each other byte; the model knows what is due. */
    private static void everyChangeOfADefinition() {
        String text = "a:i8;b:%12;c:#0[3];d:u32;e:b;";
        for (int at = 0; at <= text.length(); at++) {
            for (int sign = 0; sign <= 127; sign++) {
                String head = text.substring(0, at);
                compare(head + (char) sign + text.substring(at));
                if (at < text.length()) {
                    compare(head + (char) sign + text.substring(at + 1));
                }
            }
            compare(text.substring(0, at) + (at < text.length() ? text.substring(at + 1) : ""));
        }
    }

    private static void compare(String text) {
        RecordLayouts x = new RecordLayouts();
        Model y = new Model();
        for (String part : new String[] {"a:i8;b:u16;", text}) {
            x.clearText();
            y.clearText();
            for (char c : part.toCharArray()) {
                x.append(c);
                y.append(c);
            }
            if (!part.equals(text)) {
                x.define(8);
                y.define(8);
            }
        }
        Check.due("14 define of " + text, x.define(8), y.define(8));
        Check.due("14 digest after define of " + text, x.digest(), y.digest());
    }
}
