import java.util.ArrayList;
import java.util.List;
import java.util.concurrent.Callable;
import java.util.function.IntPredicate;

/** What the tests of boundary cases share. */
final class Bounds {
    static final int[] PACKS = {1, 2, 4, 8};
    static final int[] PLAIN_BYTES = {1, 1, 2, 2, 4, 4, 8, 1};

    private Bounds() {
    }

    /** Every number near the ranges of the document, and those at the ends of an int and around its wrap. */
    static List<Integer> numbers() {
        List<Integer> all = new ArrayList<>();
        for (int i = -130; i <= 360; i++) {
            all.add(i);
        }
        for (int i : new int[] {1023, 1024, 1025, 65535, 65536, 65537}) {
            all.add(i);
            all.add(-i);
        }
        for (int i = 0; i < 3; i++) {
            all.add(Integer.MAX_VALUE - i);
            all.add(Integer.MIN_VALUE + i);
        }
        // What is in range again when only the lowest 8 or 16 bits are looked at.
        for (int i : new int[] {0, 1, 8, 97, 100}) {
            all.add(i + 0x100);
            all.add(i + 0x10000);
            all.add(i + 0x7FFF0000);
        }
        return all;
    }

    /** The call is fine for the numbers in range and throws this exception for all others, and then changes nothing. */
    static void range(String what, Class<?> exception, IntPredicate inRange, Callable<RecordLayouts> fresh,
            CallWith call) {
        for (int number : numbers()) {
            RecordLayouts x = made(fresh);
            long before = x.digest();
            Object got = Check.answer(() -> call.of(x, number));
            boolean thrown = got instanceof String;
            if (inRange.test(number)) {
                Check.due(what + ": " + number + " is refused", thrown ? 1 : 0, 0);
            } else {
                Check.due(what + ": " + number, got, "throws." + exception.getSimpleName());
                Check.due(what + ": digest after " + number, x.digest(), before);
            }
        }
    }

    interface CallWith {
        Object of(RecordLayouts x, int number) throws Exception;
    }

    static RecordLayouts made(Callable<RecordLayouts> fresh) {
        try {
            return fresh.call();
        } catch (Exception e) {
            throw new AssertionError(e);
        }
    }

    /** A new object with records of these definitions, each of a pack; a definition "-" is a record without fields. */
    static RecordLayouts records(int pack, String... definitions) {
        RecordLayouts x = new RecordLayouts();
        for (String definition : definitions) {
            if (definition.equals("-")) {
                x.newRecord(pack);
            } else {
                Check.record(x, pack, definition);
            }
        }
        x.clearText();
        return x;
    }

    /** A new object with this text. */
    static RecordLayouts written(String text) {
        RecordLayouts x = new RecordLayouts();
        Check.write(x, text);
        return x;
    }

    /** A new object with one record of this definition, and one table of it. */
    static RecordLayouts table(String definition, int rows, int layout, int order) {
        RecordLayouts x = records(8, definition);
        x.newTable(0, rows, layout, order);
        return x;
    }

    /** Sets all bytes from an address to another one. */
    static void paint(RecordLayouts x, int from, int to, int value) {
        for (int i = from; i < to; i++) {
            x.poke(i, value);
        }
    }

    static int up(int number, int step) {
        return (number + step - 1) / step * step;
    }
}
