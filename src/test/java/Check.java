import java.util.concurrent.Callable;

/** What the tests of the project share: it counts and prints the answers that are not the ones that are due. */
final class Check {
    private static int wrong = 0;
    private static int asked = 0;

    private Check() {
    }

    static void due(String what, long got, long want) {
        asked++;
        if (got != want) {
            wrong++;
            System.out.println(what + " answered " + got + ", due is " + want);
        }
    }

    static void due(String what, Object got, Object want) {
        asked++;
        if (!got.equals(want)) {
            wrong++;
            System.out.println(what + " answered " + got + ", due is " + want);
        }
    }

    /** The answer of a call, or the name of the exception that it throws. */
    static Object answer(Callable<?> call) {
        try {
            Object got = call.call();
            return got instanceof Integer ? (Object) (long) (Integer) got : got;
        } catch (Exception e) {
            return "throws." + e.getClass().getSimpleName();
        }
    }

    /** The call has to throw exactly this exception and to change nothing. */
    static void refused(String what, RecordLayouts x, Class<?> exception, Callable<?> call) {
        long before = x.digest();
        due(what, answer(call), "throws." + exception.getSimpleName());
        due(what + ": digest afterwards", x.digest(), before);
    }

    static void index(String what, RecordLayouts x, Callable<?> call) {
        refused(what, x, IndexOutOfBoundsException.class, call);
    }

    static void argument(String what, RecordLayouts x, Callable<?> call) {
        refused(what, x, IllegalArgumentException.class, call);
    }

    static void state(String what, RecordLayouts x, Callable<?> call) {
        refused(what, x, IllegalStateException.class, call);
    }

    static void write(RecordLayouts x, String text) {
        x.clearText();
        for (char sign : text.toCharArray()) {
            x.append(sign);
        }
    }

    /** A new record with the fields of the definition. */
    static int record(RecordLayouts x, int pack, String definition) {
        write(x, definition);
        int record = x.define(pack);
        due("define " + definition, record, x.records() - 1);
        return record;
    }

    static String path(RecordLayouts x, int record, int leaf) {
        StringBuilder path = new StringBuilder();
        for (int i = 0; x.pathByte(record, leaf, i) != RecordLayouts.NONE; i++) {
            path.append((char) x.pathByte(record, leaf, i));
        }
        return path.toString();
    }

    static String bytes(RecordLayouts x, int from, int to) {
        StringBuilder bytes = new StringBuilder();
        for (int i = from; i < to; i++) {
            bytes.append(String.format("%02x", x.memory(i)));
        }
        return bytes.toString();
    }

    static void finish() {
        System.out.println(wrong == 0 ? "all " + asked + " answers are as due" : wrong + " answers are not as due");
        if (wrong != 0) {
            System.exit(1);
        }
    }
}
