import java.util.ArrayDeque;
import java.util.ArrayList;
import java.util.Arrays;
import java.util.List;
import java.util.TreeMap;

/**
 * The document once more, written as slowly and as literally as possible: paths are strings, orders are all tried,
 * memory is marked byte by byte, states are copied whole. ModelTest compares it with the program.
 */
final class Model {
    static final class Field {
        int name;
        int type;
        int count;
        int offset;
        int bit;
        int bytes;

        Field(int name, int type, int count) {
            this.name = name;
            this.type = type;
            this.count = count;
        }
    }

    static final class Rec {
        int pack;
        List<Field> fields = new ArrayList<>();
        /** Kept for speed alone: the fields of a record that stands in the state are never changed in place. */
        List<Leaf> leaves;

        Rec copy() {
            Rec rec = new Rec();
            rec.pack = pack;
            for (Field f : fields) {
                rec.fields.add(new Field(f.name, f.type, f.count));
            }
            return rec;
        }
    }

    static final class Leaf {
        String path;
        int type;
        int offset;
        int bit;
        int field;
    }

    static final class Tab {
        int rec;
        int rows;
        int layout;
        int order;
        int base;
        int bytes;

        Tab copy() {
            Tab t = new Tab();
            t.rec = rec;
            t.rows = rows;
            t.layout = layout;
            t.order = order;
            t.base = base;
            t.bytes = bytes;
            return t;
        }
    }

    static final class Kept {
        List<Rec> recs = new ArrayList<>();
        TreeMap<Integer, Tab> tabs = new TreeMap<>();
        int[] mem = new int[1024];

        Kept copy() {
            Kept k = new Kept();
            for (Rec r : recs) {
                k.recs.add(r.copy());
            }
            tabs.forEach((n, t) -> k.tabs.put(n, t.copy()));
            k.mem = mem.clone();
            return k;
        }
    }

    private Kept s = new Kept();
    private final ArrayDeque<Kept> old = new ArrayDeque<>();
    private String text = "";

    private static RuntimeException ioobe() {
        return new IndexOutOfBoundsException();
    }

    private static RuntimeException iae() {
        return new IllegalArgumentException();
    }

    private static RuntimeException ise() {
        return new IllegalStateException();
    }

    private void save() {
        old.addLast(s.copy());
        if (old.size() > 4) {
            old.removeFirst();
        }
    }

    // ---- types

    private static boolean bits(int type) {
        return 21 <= type && type <= 36;
    }

    private static int width(int type) {
        if (bits(type)) {
            return 2;
        }
        return Integer.parseInt("11224481".substring(type, type + 1));
    }

    private static int up(int n, int step) {
        int r = n;
        while (r % step != 0) {
            r++;
        }
        return r;
    }

    private int naturalAlign(int type) {
        return type >= 100 ? align(s.recs.get(type - 100)) : width(type);
    }

    private int align(Rec r) {
        int most = 1;
        for (Field f : r.fields) {
            most = Math.max(most, Math.min(naturalAlign(f.type), r.pack));
        }
        return most;
    }

    private int elementBytes(int type) {
        return type >= 100 ? size(s.recs.get(type - 100)) : width(type);
    }

    /** Places the fields in the order in which they stand in the record. */
    private int size(Rec r) {
        int end = 0;
        int usedBits = 16;
        boolean behindBits = false;
        for (Field f : r.fields) {
            f.bytes = elementBytes(f.type);
            int a = Math.min(naturalAlign(f.type), r.pack);
            if (bits(f.type)) {
                int w = f.type - 20;
                if (!behindBits || usedBits + w > 16) {
                    end = up(end, a) + 2;
                    usedBits = 0;
                }
                f.offset = end - 2;
                f.bit = usedBits;
                usedBits += w;
                behindBits = true;
            } else {
                f.offset = up(end, a);
                f.bit = 0;
                end = f.offset + f.count * f.bytes;
                behindBits = false;
            }
        }
        return up(end, align(r));
    }

    private List<Leaf> leaves(Rec r) {
        if (r.leaves == null) {
            r.leaves = newLeaves(r);
        }
        return r.leaves;
    }

    private List<Leaf> newLeaves(Rec r) {
        size(r);
        List<Leaf> all = new ArrayList<>();
        for (int k = 0; k < r.fields.size(); k++) {
            Field f = r.fields.get(k);
            for (int e = 0; e < f.count; e++) {
                String own = (char) f.name + (f.count > 1 ? "[" + e + "]" : "");
                if (f.type >= 100) {
                    for (Leaf inner : leaves(s.recs.get(f.type - 100))) {
                        Leaf leaf = new Leaf();
                        leaf.path = own + "." + inner.path;
                        leaf.type = inner.type;
                        leaf.offset = f.offset + e * f.bytes + inner.offset;
                        leaf.bit = inner.bit;
                        leaf.field = k;
                        all.add(leaf);
                    }
                } else {
                    Leaf leaf = new Leaf();
                    leaf.path = own;
                    leaf.type = f.type;
                    leaf.offset = f.offset + e * f.bytes;
                    leaf.bit = f.bit;
                    leaf.field = k;
                    all.add(leaf);
                }
            }
        }
        return all;
    }

    private boolean inUse(int rec) {
        for (Rec r : s.recs) {
            for (Field f : r.fields) {
                if (f.type == 100 + rec) {
                    return true;
                }
            }
        }
        return s.tabs.values().stream().anyMatch(t -> t.rec == rec);
    }

    private Rec rec(int record) {
        if (record < 0 || record >= s.recs.size()) {
            throw ioobe();
        }
        return s.recs.get(record);
    }

    // ---- records

    long newRecord(int pack) {
        if (!List.of(1, 2, 4, 8).contains(pack)) {
            throw iae();
        }
        if (s.recs.size() == 6) {
            throw ise();
        }
        save();
        Rec r = new Rec();
        r.pack = pack;
        s.recs.add(r);
        return s.recs.size() - 1;
    }

    long addField(int record, int name, int type, int count) {
        Rec r = rec(record);
        if (name < 97 || name > 122 || r.fields.stream().anyMatch(f -> f.name == name)) {
            throw iae();
        }
        boolean nested = type >= 100 && type - 100 < record && !s.recs.get(type - 100).fields.isEmpty();
        if (!(type >= 0 && type <= 7 || bits(type) || nested)) {
            throw iae();
        }
        if (count < 1 || count > 4 || bits(type) && count != 1) {
            throw iae();
        }
        Rec more = r.copy();
        more.fields.add(new Field(name, type, count));
        if (r.fields.size() == 8 || inUse(record) || leaves(more).size() > 40) {
            throw ise();
        }
        save();
        s.recs.set(record, more);
        return more.fields.size();
    }

    long records() {
        return s.recs.size();
    }

    long recordInfo(int record, int what) {
        Rec r = rec(record);
        int size = size(r);
        switch (what) {
            case 0: return r.pack;
            case 1: return r.fields.size();
            case 2: return size;
            case 3: return align(r);
            case 4:
                boolean[] used = new boolean[size];
                for (Leaf l : leaves(r)) {
                    Arrays.fill(used, l.offset, l.offset + width(l.type), true);
                }
                int padding = 0;
                for (boolean u : used) {
                    padding += u ? 0 : 1;
                }
                return padding;
            case 5: return leaves(r).size();
            case 6: return inUse(record) ? 1 : 0;
            default: throw iae();
        }
    }

    long fieldInfo(int record, int field, int what) {
        Rec r = rec(record);
        if (field < 0 || field >= r.fields.size()) {
            throw ioobe();
        }
        size(r);
        Field f = r.fields.get(field);
        switch (what) {
            case 0: return f.name;
            case 1: return f.type;
            case 2: return f.count;
            case 3: return f.offset;
            case 4: return f.bit;
            case 5: return f.bytes;
            default: throw iae();
        }
    }

    private Leaf leaf(int record, int leaf) {
        List<Leaf> all = leaves(rec(record));
        if (leaf < 0 || leaf >= all.size()) {
            throw ioobe();
        }
        return all.get(leaf);
    }

    long leafInfo(int record, int leaf, int what) {
        Leaf l = leaf(record, leaf);
        switch (what) {
            case 0: return l.type;
            case 1: return l.offset;
            case 2: return l.bit;
            case 3: return l.field;
            default: throw iae();
        }
    }

    long pathByte(int record, int leaf, int index) {
        String path = leaf(record, leaf).path;
        return index < 0 || index >= path.length() ? -1 : path.charAt(index);
    }

    String path(int record, int leaf) {
        return leaf(record, leaf).path;
    }

    long findLeaf(int record) {
        List<Leaf> all = leaves(rec(record));
        for (int i = 0; i < all.size(); i++) {
            if (all.get(i).path.equals(text)) {
                return i;
            }
        }
        return -1;
    }

    private int bestFound;
    private List<Integer> bestFoundOrder;

    private void permute(Rec r, List<Integer> chosen) {
        if (chosen.size() == r.fields.size()) {
            Rec other = new Rec();
            other.pack = r.pack;
            for (int i : chosen) {
                Field f = r.fields.get(i);
                other.fields.add(new Field(f.name, f.type, f.count));
            }
            int size = size(other);
            if (bestFoundOrder == null || size < bestFound) {
                bestFound = size;
                bestFoundOrder = new ArrayList<>(chosen);
            }
            return;
        }
        for (int i = 0; i < r.fields.size(); i++) {
            if (!chosen.contains(i)) {
                chosen.add(i);
                permute(r, chosen);
                chosen.remove(chosen.size() - 1);
            }
        }
    }

    private Rec bestFoundFor;

    long bestSize(int record) {
        if (bestFoundFor != rec(record)) {
            bestFoundFor = rec(record);
            bestFoundOrder = null;
            permute(rec(record), new ArrayList<>());
        }
        return bestFound;
    }

    long bestOrder(int record, int position) {
        if (position < 0 || position >= rec(record).fields.size()) {
            throw ioobe();
        }
        bestSize(record);
        return bestFoundOrder.get(position);
    }

    // ---- texts

    long append(int value) {
        if (value < 0 || value > 127) {
            throw iae();
        }
        if (text.length() == 80) {
            throw ise();
        }
        text += (char) value;
        return text.length();
    }

    long clearText() {
        int length = text.length();
        text = "";
        return length;
    }

    private static final String[] PLAIN = {"i8", "u8", "i16", "u16", "i32", "u32", "i64", "b"};

    /** All types that a definition can have now, as texts with their numbers. */
    private TreeMap<String, Integer> types() {
        TreeMap<String, Integer> types = new TreeMap<>();
        for (int i = 0; i < 8; i++) {
            types.put(PLAIN[i], i);
        }
        for (int w = 1; w <= 16; w++) {
            types.put("%" + w, 20 + w);
        }
        for (int r = 0; r < s.recs.size(); r++) {
            if (!s.recs.get(r).fields.isEmpty()) {
                types.put("#" + r, 100 + r);
            }
        }
        return types;
    }

    /** All field texts behind the name. */
    private TreeMap<String, int[]> bodies() {
        TreeMap<String, int[]> bodies = new TreeMap<>();
        // A "#" can stand even if no record has a digit that can stand behind it.
        bodies.put(":#\u00ff;", new int[] {0, 1});
        types().forEach((t, n) -> {
            bodies.put(":" + t + ";", new int[] {n, 1});
            for (int c = 1; c <= 4 && !bits(n); c++) {
                bodies.put(":" + t + "[" + c + "];", new int[] {n, c});
            }
        });
        return bodies;
    }

    long define(int pack) {
        if (!List.of(1, 2, 4, 8).contains(pack)) {
            throw iae();
        }
        if (s.recs.size() == 6) {
            throw ise();
        }
        TreeMap<String, int[]> bodies = bodies();
        Rec r = new Rec();
        r.pack = pack;
        String current = "";
        for (int i = 0; i < text.length(); i++) {
            char c = text.charAt(i);
            if (current.isEmpty()) {
                boolean taken = r.fields.stream().anyMatch(f -> f.name == c);
                if (c < 'a' || c > 'z' || taken || r.fields.size() == 8) {
                    return -10 - i;
                }
                current += c;
                continue;
            }
            current += c;
            String body = current.substring(1);
            if (bodies.keySet().stream().noneMatch(b -> b.startsWith(body))) {
                return -10 - i;
            }
            if (c == ';') {
                int[] type = bodies.get(body);
                r.fields.add(new Field(current.charAt(0), type[0], type[1]));
                if (newLeaves(r).size() > 40) {
                    return -10 - i;
                }
                current = "";
            }
        }
        if (!current.isEmpty() || r.fields.isEmpty()) {
            return -10 - text.length();
        }
        save();
        s.recs.add(r);
        return s.recs.size() - 1;
    }

    // ---- tables

    private Tab tab(int table) {
        if (!s.tabs.containsKey(table)) {
            throw ioobe();
        }
        return s.tabs.get(table);
    }

    private void row(Tab t, int row) {
        if (row < 0 || row >= t.rows) {
            throw ioobe();
        }
    }

    private List<Leaf> tabLeaves(Tab t) {
        return leaves(s.recs.get(t.rec));
    }

    private void leafOf(Tab t, int leaf) {
        if (leaf < 0 || leaf >= tabLeaves(t).size()) {
            throw ioobe();
        }
    }

    private int columnsBytes(List<Leaf> all, int rows) {
        int end = 0;
        for (Leaf l : all) {
            end = up(end, width(l.type)) + rows * width(l.type);
        }
        return up(end, 8);
    }

    private int bytes(Tab t) {
        Rec r = s.recs.get(t.rec);
        if (t.layout == 0) {
            return up(t.rows * size(r), 8);
        }
        if (t.layout == 1) {
            return columnsBytes(leaves(r), t.rows);
        }
        int blocks = 0;
        for (int first = 0; first < t.rows; first += t.layout) {
            blocks++;
        }
        return blocks * columnsBytes(leaves(r), t.layout);
    }

    private int place(Tab t, int row, int leaf) {
        List<Leaf> all = tabLeaves(t);
        if (t.layout == 0) {
            return t.base + row * size(s.recs.get(t.rec)) + all.get(leaf).offset;
        }
        int start = t.base;
        int rows = t.rows;
        int left = row;
        if (t.layout > 1) {
            rows = t.layout;
            while (left >= rows) {
                left -= rows;
                start += columnsBytes(all, rows);
            }
        }
        int distance = 0;
        for (int k = 0; k < leaf; k++) {
            distance = up(distance, width(all.get(k).type)) + rows * width(all.get(k).type);
        }
        int w = width(all.get(leaf).type);
        return start + up(distance, w) + left * w;
    }

    private boolean owned(int address) {
        for (Tab t : s.tabs.values()) {
            if (address >= t.base && address < t.base + t.bytes) {
                return true;
            }
        }
        return false;
    }

    private boolean roomAt(int base, int bytes) {
        if (base + bytes > 1024) {
            return false;
        }
        for (int a = base; a < base + bytes; a++) {
            if (owned(a)) {
                return false;
            }
        }
        return true;
    }

    private int room(int bytes) {
        for (int base = 0; base < 1024; base += 16) {
            if (roomAt(base, bytes)) {
                return base;
            }
        }
        throw ise();
    }

    long newTable(int record, int rows, int layout, int order) {
        Rec r = rec(record);
        if (rows < 1 || rows > 12 || layout < 0 || layout > 8 || order < 0 || order > 1) {
            throw iae();
        }
        if (r.fields.isEmpty() || s.tabs.size() == 3) {
            throw ise();
        }
        Tab t = new Tab();
        t.rec = record;
        t.rows = rows;
        t.layout = layout;
        t.order = order;
        t.bytes = bytes(t);
        t.base = room(t.bytes);
        save();
        int number = 0;
        while (s.tabs.containsKey(number)) {
            number++;
        }
        s.tabs.put(number, t);
        Arrays.fill(s.mem, t.base, t.base + t.bytes, 0);
        return number;
    }

    long removeTable(int table) {
        int bytes = tab(table).bytes;
        save();
        s.tabs.remove(table);
        return bytes;
    }

    long tables() {
        long set = 0;
        for (int n : s.tabs.keySet()) {
            set += 1L << n;
        }
        return set;
    }

    long tableInfo(int table, int what) {
        Tab t = tab(table);
        switch (what) {
            case 0: return t.rec;
            case 1: return t.rows;
            case 2: return t.layout;
            case 3: return t.order;
            case 4: return t.base;
            case 5: return t.bytes;
            default: throw iae();
        }
    }

    private Tab asked(int table, int row, int leaf) {
        Tab t = tab(table);
        row(t, row);
        leafOf(t, leaf);
        return t;
    }

    long address(int table, int row, int leaf) {
        return place(asked(table, row, leaf), row, leaf);
    }

    /** The bits of a value, lowest first, as places in memory: byte * 8 + bit. */
    private int[] bitPlaces(Tab t, int row, int leaf) {
        Leaf l = tabLeaves(t).get(leaf);
        int at = place(t, row, leaf);
        int n = width(l.type);
        int from = bits(l.type) && t.layout == 0 ? l.bit : 0;
        int many = bits(l.type) ? l.type - 20 : 8 * n;
        int[] places = new int[many];
        for (int i = 0; i < many; i++) {
            int bit = from + i;
            int b = t.order == 0 ? bit / 8 : n - 1 - bit / 8;
            places[i] = (at + b) * 8 + bit % 8;
        }
        return places;
    }

    private long read(Tab t, int row, int leaf) {
        int type = tabLeaves(t).get(leaf).type;
        int[] places = bitPlaces(t, row, leaf);
        long value = 0;
        for (int i = 0; i < places.length; i++) {
            long bit = s.mem[places[i] / 8] >> places[i] % 8 & 1;
            if (bit == 1 && i == places.length - 1 && (type == 0 || type == 2 || type == 4 || type == 6)) {
                value -= 1L << i;
            } else {
                value += bit << i;
            }
        }
        return type == 7 && value != 0 ? 1 : value;
    }

    private void write(Tab t, int row, int leaf, long value) {
        long v = tabLeaves(t).get(leaf).type == 7 && value != 0 ? 1 : value;
        int[] places = bitPlaces(t, row, leaf);
        for (int i = 0; i < places.length; i++) {
            int b = places[i] / 8;
            s.mem[b] = s.mem[b] & ~(1 << places[i] % 8) | (int) (v >> i & 1) << places[i] % 8;
        }
    }

    long get(int table, int row, int leaf) {
        return read(asked(table, row, leaf), row, leaf);
    }

    long set(int table, int row, int leaf, long value) {
        Tab t = asked(table, row, leaf);
        save();
        long before = read(t, row, leaf);
        write(t, row, leaf, value);
        return before;
    }

    long memory(int address) {
        if (address < 0 || address > 1023) {
            throw ioobe();
        }
        return s.mem[address];
    }

    long poke(int address, int value) {
        long before = memory(address);
        if (value < 0 || value > 255) {
            throw iae();
        }
        save();
        s.mem[address] = value;
        return before;
    }

    long freeBytes(boolean largest) {
        int free = 0;
        if (!largest) {
            for (int a = 0; a < 1024; a++) {
                free += owned(a) ? 0 : 1;
            }
            return free;
        }
        for (int base = 0; base < 1024; base += 16) {
            int end = base;
            while (end < 1024 && !owned(end)) {
                end++;
            }
            free = Math.max(free, end - base);
        }
        return free;
    }

    // ---- conversions

    /** Moves the values by way of a map from paths to rows of values. */
    private int rewrite(Tab t, int record, int layout, int order) {
        Tab n = t.copy();
        n.rec = record;
        n.layout = layout;
        n.order = order;
        n.bytes = bytes(n);
        n.base = room(n.bytes);
        save();
        TreeMap<String, long[]> values = new TreeMap<>();
        List<Leaf> from = tabLeaves(t);
        for (int k = 0; k < from.size(); k++) {
            long[] rows = new long[t.rows];
            for (int row = 0; row < t.rows; row++) {
                rows[row] = read(t, row, k);
            }
            values.put(from.get(k).path, rows);
        }
        Arrays.fill(s.mem, n.base, n.base + n.bytes, 0);
        int same = 0;
        List<Leaf> to = tabLeaves(n);
        for (int k = 0; k < to.size(); k++) {
            long[] rows = values.get(to.get(k).path);
            if (rows != null) {
                same++;
                for (int row = 0; row < t.rows; row++) {
                    write(n, row, k, rows[row]);
                }
            }
        }
        t.rec = n.rec;
        t.layout = n.layout;
        t.order = n.order;
        t.bytes = n.bytes;
        t.base = n.base;
        return same;
    }

    long convert(int table, int layout, int order) {
        Tab t = tab(table);
        if (layout < 0 || layout > 8 || order < 0 || order > 1) {
            throw iae();
        }
        rewrite(t, t.rec, layout, order);
        return t.base;
    }

    long migrate(int table, int record, int layout) {
        Tab t = tab(table);
        Rec r = rec(record);
        if (layout < 0 || layout > 8) {
            throw iae();
        }
        if (r.fields.isEmpty()) {
            throw ise();
        }
        return rewrite(t, record, layout, t.order);
    }

    long compact() {
        save();
        List<Tab> sorted = new ArrayList<>(s.tabs.values());
        sorted.sort((a, b) -> Integer.compare(a.base, b.base));
        int moved = 0;
        int next = 0;
        for (Tab t : sorted) {
            int[] bytes = Arrays.copyOfRange(s.mem, t.base, t.base + t.bytes);
            if (t.base != next) {
                moved++;
            }
            t.base = next;
            System.arraycopy(bytes, 0, s.mem, next, bytes.length);
            next = up(next + t.bytes, 16);
        }
        return moved;
    }

    long sort(int table, int leaf, boolean descending) {
        Tab t = tab(table);
        leafOf(t, leaf);
        save();
        int many = tabLeaves(t).size();
        long[][] values = new long[t.rows][many];
        List<Integer> order = new ArrayList<>();
        for (int row = 0; row < t.rows; row++) {
            order.add(row);
            for (int k = 0; k < many; k++) {
                values[row][k] = read(t, row, k);
            }
        }
        order.sort((a, b) -> descending
                ? Long.compare(values[b][leaf], values[a][leaf]) : Long.compare(values[a][leaf], values[b][leaf]));
        int moved = 0;
        for (int row = 0; row < t.rows; row++) {
            moved += order.get(row) == row ? 0 : 1;
            for (int k = 0; k < many; k++) {
                write(t, row, k, values[order.get(row)][k]);
            }
        }
        return moved;
    }

    long fill(int table, int leaf, long start, long step) {
        Tab t = tab(table);
        leafOf(t, leaf);
        save();
        long value = start;
        for (int row = 0; row < t.rows; row++) {
            write(t, row, leaf, value);
            value += step;
        }
        return t.rows;
    }

    long copyRow(int table, int from, int to) {
        Tab t = tab(table);
        row(t, from);
        row(t, to);
        save();
        int changed = 0;
        for (int k = 0; k < tabLeaves(t).size(); k++) {
            long before = read(t, to, k);
            write(t, to, k, read(t, from, k));
            changed += read(t, to, k) == before ? 0 : 1;
        }
        return changed;
    }

    // ---- questions

    long count(int table, int leaf, int relation, long value) {
        Tab t = tab(table);
        leafOf(t, leaf);
        if (relation < 0 || relation > 2) {
            throw iae();
        }
        int many = 0;
        for (int row = 0; row < t.rows; row++) {
            many += Long.compare(read(t, row, leaf), value) == relation - 1 ? 1 : 0;
        }
        return many;
    }

    long findRow(int table, int leaf, long value, int from) {
        Tab t = asked(table, from, leaf);
        for (int row = from; row < t.rows; row++) {
            if (read(t, row, leaf) == value) {
                return row;
            }
        }
        return -1;
    }

    long sum(int table, int leaf) {
        Tab t = tab(table);
        leafOf(t, leaf);
        long sum = 0;
        for (int row = 0; row < t.rows; row++) {
            sum += read(t, row, leaf);
        }
        return sum;
    }

    private boolean[] touched(Tab t, long leaves, int from, int to) {
        boolean[] touched = new boolean[20000];
        List<Leaf> all = tabLeaves(t);
        for (int row = from; row <= to; row++) {
            for (int k = 0; k < all.size(); k++) {
                if ((leaves & 1L << k) != 0) {
                    int at = place(t, row, k);
                    Arrays.fill(touched, at, at + width(all.get(k).type), true);
                }
            }
        }
        return touched;
    }

    private static int lineCount(boolean[] touched, int line) {
        int many = 0;
        for (int start = 0; start < touched.length; start += line) {
            boolean any = false;
            for (int a = start; a < start + line && a < touched.length; a++) {
                any |= touched[a];
            }
            many += any ? 1 : 0;
        }
        return many;
    }

    private static void checkLine(int line) {
        if (line != 16 && line != 32 && line != 64) {
            throw iae();
        }
    }

    long lines(int table, long leaves, int from, int to, int line) {
        Tab t = tab(table);
        row(t, from);
        row(t, to);
        if (from > to) {
            throw iae();
        }
        checkLine(line);
        return lineCount(touched(t, leaves, from, to), line);
    }

    long runs(int table, long leaves, int from, int to) {
        Tab t = tab(table);
        row(t, from);
        row(t, to);
        if (from > to) {
            throw iae();
        }
        boolean[] touched = touched(t, leaves, from, to);
        int many = 0;
        boolean before = false;
        for (boolean b : touched) {
            many += b && !before ? 1 : 0;
            before = b;
        }
        return many;
    }

    long bestLayout(int table, long leaves, int line) {
        Tab t = tab(table).copy();
        checkLine(line);
        t.base = 0;
        int best = -1;
        int fewest = 0;
        for (int layout = 8; layout >= 0; layout--) {
            t.layout = layout;
            int many = lineCount(touched(t, leaves, 0, t.rows - 1), line);
            if (best == -1 || many <= fewest) {
                best = layout;
                fewest = many;
            }
        }
        return best;
    }

    // ---- state

    long undo() {
        if (old.isEmpty()) {
            throw ise();
        }
        s = old.removeLast();
        return old.size();
    }

    long digest() {
        List<Long> values = new ArrayList<>();
        values.add(records());
        for (int r = 0; r < s.recs.size(); r++) {
            for (int what = 0; what <= 5; what++) {
                values.add(recordInfo(r, what));
            }
            for (int f = 0; f < s.recs.get(r).fields.size(); f++) {
                for (int what = 0; what <= 4; what++) {
                    values.add(fieldInfo(r, f, what));
                }
            }
        }
        values.add(tables());
        for (int t : s.tabs.keySet()) {
            for (int what = 0; what <= 5; what++) {
                values.add(tableInfo(t, what));
            }
        }
        for (int a = 0; a < 1024; a++) {
            values.add(memory(a));
        }
        values.add((long) text.length());
        values.add((long) old.size());
        long h = 1733;
        for (long v : values) {
            h = 31 * h + v;
        }
        return h;
    }
}
