import java.io.IOException;
import java.lang.reflect.Constructor;
import java.lang.reflect.Field;
import java.lang.reflect.Method;
import java.lang.reflect.Modifier;
import java.nio.file.Files;
import java.nio.file.Path;
import java.util.ArrayList;
import java.util.Arrays;
import java.util.Collections;
import java.util.List;
import java.util.TreeSet;
import java.util.regex.Matcher;
import java.util.regex.Pattern;

/** The public face, and those rules of ../shared/LANGUAGE.md that can be seen from outside or by words. */
public final class FaceTest {
    private static final String[] FACE = {
        "int newRecord(int) AS", "int addField(int,int,int,int) IAS", "int records()", "int recordInfo(int,int) IA",
        "int fieldInfo(int,int,int) IA", "int leafInfo(int,int,int) IA", "int pathByte(int,int,int) I",
        "int findLeaf(int) I", "int bestSize(int) I", "int bestOrder(int,int) I", "int append(int) AS",
        "int clearText()", "int define(int) AS", "int newTable(int,int,int,int) IAS", "int removeTable(int) I",
        "int tables()", "int tableInfo(int,int) IA", "int address(int,int,int) I", "long get(int,int,int) I",
        "long set(int,int,int,long) I", "int memory(int) I", "int poke(int,int) IA", "int freeBytes(boolean)",
        "int convert(int,int,int) IAS", "int migrate(int,int,int) IAS", "int compact()",
        "int sort(int,int,boolean) I", "int fill(int,int,long,long) I", "int copyRow(int,int,int) I",
        "int count(int,int,int,long) IA", "int findRow(int,int,long,int) I", "long sum(int,int) I",
        "int lines(int,long,int,int,int) IA", "int runs(int,long,int,int) IA", "int bestLayout(int,long,int) IA",
        "int undo() S", "long digest()"};

    private static final String[] FORBIDDEN_WORDS = {
        "->", "::", "\\btry\\b", "\\bcatch\\b", "\\bfinally\\b", "\\bsynchronized\\b", "\\bassert\\b",
        "\\bprotected\\b", "\\bMath\\.\\w+Exact", "\\bMAX_VALUE\\b", "\\bMIN_VALUE\\b",
        "\\bSystem\\.(?!arraycopy\\b)", "\\bRandom\\b", "\\bThread\\b", "\\bStream\\b", "\\bString\\.format\\b",
        "\\bequals\\(", "\\bhashCode\\b", "\\btoString\\b", "\\bstatic \\{", "\\bwhile \\(true\\)", "\\bfor \\(;;\\)",
        "^import (?!java\\.util\\.Arrays;)"};

    public static void main(String[] args) throws IOException {
        face();
        hiddenMembers();
        words();
        methodLengths();
        Check.finish();
    }

    private static String signature(Method m) {
        List<String> types = new ArrayList<>();
        for (Class<?> type : m.getParameterTypes()) {
            types.add(type.getName());
        }
        StringBuilder thrown = new StringBuilder();
        for (Class<?> type : m.getExceptionTypes()) {
            thrown.append(type.getSimpleName().replace("Illegal", "").charAt(0));
        }
        return (m.getReturnType().getName() + " " + m.getName() + "(" + String.join(",", types) + ") " + thrown).trim();
    }

    private static void face() {
        Class<?> c = RecordLayouts.class;
        Check.due("the class is public and final", c.getModifiers(), Modifier.PUBLIC | Modifier.FINAL);
        TreeSet<String> have = new TreeSet<>();
        for (Method m : c.getDeclaredMethods()) {
            if (Modifier.isPublic(m.getModifiers())) {
                have.add(signature(m));
            }
        }
        Check.due("public methods", have, new TreeSet<>(Arrays.asList(FACE)));
        Constructor<?>[] constructors = c.getDeclaredConstructors();
        Check.due("constructors", constructors.length, 1);
        Check.due("parameters of the constructor", constructors[0].getParameterCount(), 0);
        Check.due("the constructor is public", constructors[0].getModifiers(), Modifier.PUBLIC);
    }

    private static void hiddenMembers() {
        Class<?> c = RecordLayouts.class;
        TreeSet<String> names = new TreeSet<>();
        for (String line : FACE) {
            names.add(line.substring(line.indexOf(' ') + 1, line.indexOf('(')));
        }
        List<Class<?>> all = new ArrayList<>(Arrays.asList(c.getDeclaredClasses()));
        Check.due("at most twelve classes", all.size() < 12 ? 1 : 0, 1);
        for (Class<?> inside : all) {
            Check.due(inside + " is static", Modifier.isStatic(inside.getModifiers()) ? 1 : 0, 1);
        }
        all.add(c);
        for (Class<?> one : all) {
            int fields = 0;
            for (Field f : one.getDeclaredFields()) {
                if (Modifier.isStatic(f.getModifiers())) {
                    Check.due(f + " is final", Modifier.isFinal(f.getModifiers()) ? 1 : 0, 1);
                } else {
                    fields++;
                }
                boolean outside = one == c && !Modifier.isPrivate(f.getModifiers());
                Check.due(f + " is private or NONE", !outside || f.getName().equals("NONE") ? 1 : 0, 1);
            }
            Check.due("at most 20 fields in " + one, fields <= 20 ? 1 : 0, 1);
            for (Method m : one.getDeclaredMethods()) {
                if (one != c || !Modifier.isPublic(m.getModifiers())) {
                    Check.due(m + " has a name of its own", names.contains(m.getName()) ? 1 : 0, 0);
                    Check.due(m + " is private", one != c || Modifier.isPrivate(m.getModifiers()) ? 1 : 0, 1);
                }
                Check.due(m + " has at most 7 parameters", m.getParameterCount() <= 7 ? 1 : 0, 1);
            }
        }
    }

    private static String source() throws IOException {
        return Files.readString(Path.of("src/main/java/RecordLayouts.java"));
    }

    private static void words() throws IOException {
        String code = source().replaceAll("(?s)/\\*.*?\\*/", "").replaceAll("//.*", "");
        for (String word : FORBIDDEN_WORDS) {
            Matcher m = Pattern.compile(word, Pattern.MULTILINE).matcher(code);
            Check.due("the program has " + word, m.find() ? 1 : 0, 0);
        }
        Matcher news = Pattern.compile("throw new (\\w+)\\((\"[^\"]*\")?\\)").matcher(code);
        TreeSet<String> thrown = new TreeSet<>();
        while (news.find()) {
            thrown.add(news.group(1));
        }
        Check.due("thrown", thrown, new TreeSet<>(List.of(
                "IllegalArgumentException", "IllegalStateException", "IndexOutOfBoundsException")));
        for (String line : source().split("\n")) {
            Check.due("a line of " + line.length() + ": " + line, line.length() <= 120 ? 1 : 0, 1);
        }
    }

    /** Counts the lines from the head of a method to the brace that closes it. */
    private static void methodLengths() throws IOException {
        String[] lines = source().split("\n");
        List<Integer> lengths = new ArrayList<>();
        for (int i = 0; i < lines.length; i++) {
            if (lines[i].matches("( {4}| {8})(public|private|static|int|long|boolean|void|Table|Shape)[^=;]*\\(.*")) {
                String indent = lines[i].substring(0, lines[i].length() - lines[i].stripLeading().length());
                int end = i;
                while (!lines[end].equals(indent + "}")) {
                    end++;
                }
                lengths.add(end - i + 1);
            }
        }
        Check.due("methods are found", lengths.size() > 100 ? 1 : 0, 1);
        Check.due("at most 60 lines", Collections.max(lengths) <= 60 ? 1 : 0, 1);
    }
}
