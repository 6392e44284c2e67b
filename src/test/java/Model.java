import java.lang.reflect.Array;
import java.util.ArrayList;
import java.util.Arrays;
import java.util.Collections;
import java.util.List;

/**
 * The document once more, told in another way: with the machine's own numbers, arrays and exceptions.
 * ModelTest holds RecordBridge against it.
 */
final class Model {
    static final int UNKNOWN = -1, OUTSIDE = -2, NO = -3, FULL = -4, NONE = -5;
    static final long LOST = Long.MIN_VALUE;
    private static final Class<?>[] CELL = {
        boolean.class, byte.class, char.class, short.class, int.class, long.class, float.class, double.class, V.class,
    };

    static final class R {
        int lane;
        Object cells;
        boolean kept;
        int n() {
            return Array.getLength(cells);
        }
    }

    record P(int label, int lane, V constant) {
    }

    static final class K {
        boolean enumLike;
        int trait;
        List<List<P>> editions = new ArrayList<>();
        boolean started;
        List<V> made = new ArrayList<>();
        List<P> newest() {
            return editions.get(editions.size() - 1);
        }
    }

    static final class V {
        K kind;
        int edition;
        int label;
        Object[] parts = {};
        List<P> shape() {
            return kind.editions.get(edition);
        }
    }

    /** A fault on its way out. */
    static final class Fault extends RuntimeException {
        final int number;
        Fault(int number) {
            this.number = number;
        }
    }

    static final class Refusal extends RuntimeException {
        final int answer;
        Refusal(int answer) {
            this.answer = answer;
        }
    }

    final List<R> rows = new ArrayList<>();
    final List<K> kinds = new ArrayList<>();
    final List<V> values = new ArrayList<>();
    final List<Object[]> families = new ArrayList<>();
    Object[] tray = new Object[6];
    String shown = "";
    int trace, fault, faults;

    /** One call by its name; what is thrown becomes the answer that the document tells. */
    long call(String name, long[] a) {
        boolean isLong = name.equals("get") || name.equals("part") || name.equals("accessor") || name.equals("hash");
        try {
            return answer(name, a);
        } catch (Refusal r) {
            return isLong ? LOST : r.answer;
        } catch (Fault f) {
            fault = f.number;
            faults++;
            return isLong ? LOST : -10 - f.number;
        }
    }

    private long answer(String name, long[] a) {
        int p = a.length > 0 ? (int) a[0] : 0;
        int q = a.length > 1 ? (int) a[1] : 0;
        int r = a.length > 2 ? (int) a[2] : 0;
        switch (name) {
            case "row": return row(p, q);
            case "put": return put(p, q, r, a[3]);
            case "get": return get(p, q, r);
            case "lay": return lay(p, q, r);
            case "at": return told(((V[]) things(rowOf(p), q).cells)[q]);
            case "length": return length(rowOf(p), q);
            case "copy": return copy(rowOf(p), q, rowOf(r), (int) a[3], (int) a[4]);
            case "twin": return rows.indexOf(twin(rowOf(p), false));
            case "record": return kind(false, p, 4);
            case "constants": return kind(true, p, 3);
            case "more": return more(kindOf(p), q, r);
            case "edition": return edition(kindOf(p), q, r, (int) a[3]);
            case "family": return family(p, q != 0);
            case "info": return info(kindOf(p), q);
            case "give": return give(p, q, a[2]);
            case "hand": return hand(p, q, r != 0);
            case "make": return make(kindOf(p));
            case "named": return named(kindOf(p), q);
            case "part": return part(recordOf(p), q);
            case "accessor": return accessor(recordOf(p), q);
            case "of": return of(valueOf(p), q);
            case "array": return array(recordOf(p), q, r != 0);
            case "match": return match(p, q);
            case "equal": return equal(valueOf(p), valueOf(q)) ? 1 : 0;
            case "order": return order(valueOf(p), valueOf(q)) - 100;
            case "hash": return hash(valueOf(p));
            case "weight": return weight(valueOf(p));
            case "show": return show(valueOf(p));
            case "byteAt": return p >= 0 && p < shown.length() ? shown.charAt(p) : NONE;
            case "carry": return carry(valueOf(p));
            case "trace": return trace;
            case "fault": return fault;
            default: return toldOf(p);
        }
    }

    // ---- finding

    private static void refuseIf(boolean isSo, int answer) {
        if (isSo) {
            throw new Refusal(answer);
        }
    }

    private static void faultIf(boolean isSo, int number) {
        if (isSo) {
            throw new Fault(number);
        }
    }

    private R rowOf(int n) {
        refuseIf(n < 0 || n >= rows.size(), UNKNOWN);
        return rows.get(n);
    }

    private K kindOf(int n) {
        refuseIf(n < 0 || n >= kinds.size(), UNKNOWN);
        return kinds.get(n);
    }

    private V valueOf(int n) {
        refuseIf(n < 0 || n >= values.size(), UNKNOWN);
        return values.get(n);
    }

    private V recordOf(int n) {
        V v = valueOf(n);
        refuseIf(v.kind.enumLike, NO);
        return v;
    }

    // ---- numbers

    private static Object comes(int lane, long v) {
        switch (lane) {
            case 0: return (v & 1) == 1;
            case 1: return (byte) v;
            case 2: return (char) v;
            case 3: return (short) v;
            case 4: return (int) v;
            case 5: return v;
            case 6: return (float) v;
            default: return (double) v;
        }
    }

    /** The library's arrays widen as the language does, and refuse the rest. */
    private static Object widened(Object number, int lane) {
        if (!(number instanceof Number || number instanceof Boolean || number instanceof Character)) {
            throw new Fault(3);
        }
        Object cell = Array.newInstance(CELL[lane], 1);
        try {
            Array.set(cell, 0, number);
        } catch (IllegalArgumentException e) {
            throw new Fault(3);
        }
        return Array.get(cell, 0);
    }

    private long told(Object o) {
        if (o == null) {
            return NONE;
        }
        if (o instanceof V) {
            return values.indexOf(o);
        }
        if (o instanceof R) {
            return rows.indexOf(o);
        }
        if (o instanceof Boolean b) {
            return b ? 1 : 0;
        }
        if (o instanceof Character c) {
            return c;
        }
        if (o instanceof Float f) {
            return Float.floatToRawIntBits(f);
        }
        if (o instanceof Double d) {
            return Double.doubleToRawLongBits(d);
        }
        return ((Number) o).longValue();
    }

    // ---- rows

    private long row(int lane, int n) {
        refuseIf(lane < 0 || lane > 8 || n > 20, OUTSIDE);
        refuseIf(rows.size() == 60, FULL);
        R r = new R();
        r.lane = lane;
        try {
            r.cells = Array.newInstance(CELL[lane], n);
        } catch (NegativeArraySizeException e) {
            throw new Fault(4);
        }
        rows.add(r);
        return rows.size() - 1;
    }

    private long put(int row, int i, int lane, long v) {
        R r = rowOf(row);
        refuseIf(lane < 0 || lane > 7, OUTSIDE);
        faultIf(r.lane == 8, 3);
        faultIf(i < 0 || i >= r.n(), 2);
        Array.set(r.cells, i, widened(comes(lane, v), r.lane));
        return 1;
    }

    private long get(int row, int i, int lane) {
        R r = rowOf(row);
        refuseIf(lane < 0 || lane > 7, OUTSIDE);
        faultIf(r.lane == 8, 3);
        faultIf(i < 0 || i >= r.n(), 2);
        return told(widened(Array.get(r.cells, i), lane));
    }

    private static R things(R r, int i) {
        faultIf(r.lane != 8, 3);
        faultIf(i < 0 || i >= r.n(), 2);
        return r;
    }

    private long lay(int row, int i, int value) {
        R r = rowOf(row);
        V v = value == -1 ? null : valueOf(value);
        refuseIf(r.kept, NO);
        Array.set(things(r, i).cells, i, v);
        return 1;
    }

    private static long length(R r, int what) {
        refuseIf(what < 0 || what > 2, OUTSIDE);
        return new long[] {r.lane, r.n(), r.kept ? 1 : 0}[what];
    }

    private static long copy(R from, int i, R to, int k, int n) {
        refuseIf(from.lane != to.lane || to.kept, NO);
        try {
            System.arraycopy(from.cells, i, to.cells, k, n);
        } catch (IndexOutOfBoundsException e) {
            throw new Fault(2);
        }
        return n;
    }

    private R twin(R like, boolean kept) {
        refuseIf(rows.size() == 60, FULL);
        R r = new R();
        r.lane = like.lane;
        r.kept = kept;
        r.cells = Array.newInstance(CELL[like.lane], like.n());
        System.arraycopy(like.cells, 0, r.cells, 0, like.n());
        rows.add(r);
        return r;
    }

    // ---- kinds

    private long kind(boolean enumLike, int trait, int last) {
        refuseIf(trait < 0 || trait > last, OUTSIDE);
        refuseIf(kinds.size() == 16, FULL);
        K k = new K();
        k.enumLike = enumLike;
        k.trait = trait;
        k.editions.add(new ArrayList<>());
        kinds.add(k);
        return kinds.size() - 1;
    }

    private static int most(K k) {
        return k.enumLike ? 8 : 6;
    }

    private static int index(List<P> shape, int label) {
        for (int i = 0; i < shape.size(); i++) {
            if (shape.get(i).label == label) {
                return i;
            }
        }
        return -1;
    }

    private static long more(K k, int word, int lane) {
        refuseIf(word < 1 || word > 99, OUTSIDE);
        refuseIf(!k.enumLike && (lane < 0 || lane > 9), OUTSIDE);
        refuseIf(k.started || index(k.newest(), word) >= 0, NO);
        refuseIf(k.newest().size() == most(k), FULL);
        k.newest().add(new P(word, lane, null));
        return k.newest().size();
    }

    private long edition(K k, int what, int word, int lane) {
        refuseIf(what < 0 || what > 3, OUTSIDE);
        refuseIf(what < 3 && (word < 1 || word > 99), OUTSIDE);
        refuseIf(!k.enumLike && (what == 0 || what == 2) && (lane < 0 || lane > 9), OUTSIDE);
        refuseIf(!k.started || (k.enumLike && what == 2), NO);
        List<P> next = new ArrayList<>(k.newest());
        int i = index(next, word);
        refuseIf(what == 0 && i >= 0, NO);
        refuseIf((what == 1 || what == 2) && i < 0, NO);
        refuseIf(k.editions.size() == 4, FULL);
        refuseIf(what == 0 && next.size() == most(k), FULL);
        refuseIf(what == 0 && k.enumLike && values.size() == 200, FULL);
        k.editions.add(next);
        if (what == 0) {
            next.add(new P(word, lane, k.enumLike ? constant(k, word) : null));
        } else if (what == 1) {
            next.remove(i);
        } else if (what == 2) {
            next.set(i, new P(word, lane, null));
        } else {
            Collections.reverse(next);
        }
        return k.editions.size() - 1;
    }

    private V constant(K k, int label) {
        V v = new V();
        v.kind = k;
        v.edition = k.editions.size() - 1;
        v.label = label;
        return keep(v);
    }

    private V keep(V v) {
        values.add(v);
        v.kind.made.add(v);
        return v;
    }

    private long family(int bits, boolean sealed) {
        List<K> of = new ArrayList<>();
        for (int b = 0; b < 32; b++) {
            if ((bits >> b & 1) == 1) {
                refuseIf(b >= kinds.size(), OUTSIDE);
                of.add(kinds.get(b));
            }
        }
        refuseIf(families.size() == 8, FULL);
        families.add(new Object[] {of, sealed});
        return families.size() - 1;
    }

    private static long info(K k, int what) {
        refuseIf(what < 0 || what > 4, OUTSIDE);
        return new long[] {
            k.enumLike ? 1 : 0, k.newest().size(), k.editions.size() - 1, k.started ? 1 : 0, k.made.size(),
        }[what];
    }

    // ---- making

    private long give(int k, int lane, long v) {
        refuseIf(k < 0 || k > 5 || lane < 0 || lane > 7, OUTSIDE);
        tray[k] = comes(lane, v);
        return 1;
    }

    private long hand(int k, int number, boolean isRow) {
        Object o = number == -1 ? null : isRow ? (Object) rowOf(number) : valueOf(number);
        refuseIf(k < 0 || k > 5, OUTSIDE);
        tray[k] = o;
        return 1;
    }

    private void start(K k) {
        if (!k.started) {
            k.started = true;
            trace = 31 * trace + 100 + kinds.indexOf(k);
            List<P> shape = k.newest();
            for (int i = 0; k.enumLike && i < shape.size(); i++) {
                P p = shape.get(i);
                shape.set(i, new P(p.label, p.lane, constant(k, p.label)));
            }
        }
    }

    private long make(K k) {
        refuseIf(k.enumLike, NO);
        refuseIf(values.size() == 200, FULL);
        start(k);
        List<P> shape = k.newest();
        Object[] parts = new Object[shape.size()];
        for (int i = 0; i < parts.length; i++) {
            int lane = shape.get(i).lane;
            Object o = tray[i];
            if (lane < 8) {
                faultIf(o == null, 1);
                parts[i] = widened(o, lane);
            } else {
                faultIf(o != null && !(lane == 8 ? o instanceof V : o instanceof R), 3);
                parts[i] = o;
            }
        }
        long made = finish(k, parts);
        Arrays.fill(tray, null);
        return made;
    }

    private static boolean toTwin(K k, Object o) {
        return o instanceof R r && !r.kept && (r.lane == 8 || k.trait == 4);
    }

    private long finish(K k, Object[] parts) {
        List<P> shape = k.newest();
        long twins = Arrays.stream(parts).filter(o -> toTwin(k, o)).count();
        refuseIf(rows.size() + twins > 60, FULL);
        boolean two = parts.length > 1 && isWhole(shape.get(0).lane) && isWhole(shape.get(1).lane);
        if (two && told(parts[0]) > told(parts[1])) {
            faultIf(k.trait == 1, 5);
            if (k.trait == 2) {
                Object first = comes(shape.get(0).lane, told(parts[1]));
                parts[1] = comes(shape.get(1).lane, told(parts[0]));
                parts[0] = first;
            }
        }
        faultIf(k.trait == 3 && Arrays.asList(parts).contains(null), 5);
        V v = new V();
        v.kind = k;
        v.edition = k.editions.size() - 1;
        v.parts = parts;
        refuseIf(size(v) > 300 || deep(v) > 8, FULL);
        for (int i = 0; i < parts.length; i++) {
            if (toTwin(k, parts[i])) {
                R r = (R) parts[i];
                parts[i] = twin(r, r.lane == 8);
            }
        }
        keep(v);
        return values.size() - 1;
    }

    private static boolean isWhole(int lane) {
        return lane >= 1 && lane <= 5;
    }

    private static List<V> within(V v) {
        List<V> all = new ArrayList<>();
        for (Object o : v.parts) {
            if (o instanceof V w) {
                all.add(w);
            } else if (o instanceof R r && r.lane == 8) {
                all.addAll(Arrays.asList((V[]) r.cells));
            }
        }
        all.removeIf(w -> w == null);
        return all;
    }

    private static int size(V v) {
        return 1 + within(v).stream().mapToInt(Model::size).sum();
    }

    private static int deep(V v) {
        return 1 + within(v).stream().mapToInt(Model::deep).max().orElse(0);
    }

    private long named(K k, int word) {
        refuseIf(!k.enumLike, NO);
        int i = index(k.newest(), word);
        refuseIf(i < 0, NO);
        refuseIf(!k.started && values.size() + k.newest().size() > 200, FULL);
        start(k);
        return values.indexOf(k.newest().get(i).constant);
    }

    private long carry(V v) {
        List<P> shape = v.kind.newest();
        if (v.kind.enumLike) {
            refuseIf(index(shape, v.label) < 0, NO);
            return values.indexOf(v);
        }
        refuseIf(values.size() == 200, FULL);
        Object[] parts = new Object[shape.size()];
        for (int i = 0; i < parts.length; i++) {
            int lane = shape.get(i).lane;
            int old = index(v.shape(), shape.get(i).label);
            if (old < 0) {
                parts[i] = lane < 8 ? comes(lane, 0) : null;
                continue;
            }
            int was = v.shape().get(old).lane;
            faultIf(was != lane && (was > 7 || lane > 7), 3);
            parts[i] = lane > 7 ? v.parts[old] : widened(v.parts[old], lane);
        }
        return finish(v.kind, parts);
    }

    // ---- values

    private long part(V v, int k) {
        faultIf(k < 0 || k >= v.parts.length, 2);
        return told(v.parts[k]);
    }

    private long accessor(V v, int word) {
        int k = index(v.shape(), word);
        refuseIf(k < 0, NO);
        return told(v.parts[k]);
    }

    private long of(V v, int what) {
        refuseIf(what < 0 || what > 5, OUTSIDE);
        return new long[] {
            kinds.indexOf(v.kind), v.edition, size(v), v.kind.made.indexOf(v), v.label, deep(v),
        }[what];
    }

    private long array(V v, int k, boolean isShared) {
        faultIf(k < 0 || k >= v.parts.length, 2);
        faultIf(v.shape().get(k).lane != 9, 3);
        faultIf(v.parts[k] == null, 1);
        R r = (R) v.parts[k];
        return rows.indexOf(isShared ? r : twin(r, false));
    }

    private long match(int family, int value) {
        refuseIf(family < 0 || family >= families.size(), UNKNOWN);
        V v = valueOf(value);
        int i = ((List<?>) families.get(family)[0]).indexOf(v.kind);
        return i >= 0 ? i : (Boolean) families.get(family)[1] ? NO : NONE;
    }

    private static List<Object> cells(R r) {
        List<Object> all = new ArrayList<>();
        for (int i = 0; i < r.n(); i++) {
            all.add(Array.get(r.cells, i));
        }
        return all;
    }

    private boolean equal(Object a, Object b) {
        if (a == null || b == null) {
            return a == b;
        }
        if (a instanceof V v && b instanceof V w) {
            return v.kind.enumLike ? v == w
                : v.kind == w.kind && v.edition == w.edition && allEqual(Arrays.asList(v.parts), Arrays.asList(w.parts));
        }
        if (a instanceof R r && b instanceof R s) {
            return r.lane == s.lane && allEqual(cells(r), cells(s));
        }
        return a.equals(b);
    }

    private boolean allEqual(List<Object> a, List<Object> b) {
        boolean isSo = a.size() == b.size();
        for (int i = 0; isSo && i < a.size(); i++) {
            isSo = equal(a.get(i), b.get(i));
        }
        return isSo;
    }

    @SuppressWarnings("unchecked")
    private int order(Object a, Object b) {
        if (a == null || b == null) {
            return Boolean.compare(a != null, b != null);
        }
        if (a instanceof V v && b instanceof V w) {
            int c = Integer.compare(kinds.indexOf(v.kind), kinds.indexOf(w.kind));
            c = c != 0 ? c : Integer.compare(v.edition, w.edition);
            c = c != 0 || !v.kind.enumLike ? c : Integer.compare(values.indexOf(v), values.indexOf(w));
            return c != 0 ? c : orderAll(Arrays.asList(v.parts), Arrays.asList(w.parts));
        }
        if (a instanceof R r && b instanceof R s) {
            int c = Integer.compare(r.lane, s.lane);
            return c != 0 ? c : orderAll(cells(r), cells(s));
        }
        return Integer.signum(((Comparable<Object>) a).compareTo(b));
    }

    private int orderAll(List<Object> a, List<Object> b) {
        for (int i = 0; i < Math.min(a.size(), b.size()); i++) {
            int c = order(a.get(i), b.get(i));
            if (c != 0) {
                return c;
            }
        }
        return Integer.compare(a.size(), b.size());
    }

    private int hash(Object o) {
        if (o instanceof V v) {
            if (v.kind.enumLike) {
                return 7 * kinds.indexOf(v.kind) + v.kind.made.indexOf(v);
            }
            int h = kinds.indexOf(v.kind);
            for (Object part : v.parts) {
                h = 31 * h + hash(part);
            }
            return h;
        }
        if (o instanceof R r) {
            int h = 1;
            for (Object cell : cells(r)) {
                h = 31 * h + hash(cell);
            }
            return h;
        }
        if (o instanceof Byte || o instanceof Short || o instanceof Character) {
            return (int) told(o);
        }
        return o == null ? 0 : o.hashCode();
    }

    /** The bodies as classes, one over the other, with the younger MARK hiding the elder. */
    private class Body0 {
        final int mark = 1;
        int weigh(int manieth) {
            trace = 31 * trace + 3;
            return manieth + mark;
        }
    }

    private class Body1 extends Body0 {
        @Override
        int weigh(int manieth) {
            trace = 31 * trace + 4;
            return 2 * super.weigh(manieth);
        }
    }

    private class Body2 extends Body1 {
        final int mark = 7;
    }

    private class Body3 extends Body2 {
        @Override
        int weigh(int manieth) {
            trace = 31 * trace + 5;
            return super.weigh(manieth) + mark + ((Body0) this).mark;
        }
    }

    private int weight(V v) {
        if (v.kind.enumLike) {
            Body0[] bodies = {new Body0(), new Body1(), new Body2(), new Body3()};
            return bodies[v.kind.trait].weigh(v.kind.made.indexOf(v));
        }
        trace = 31 * trace + 1;
        trace = 31 * trace + 2;
        int sum = 10;
        for (Object o : v.parts) {
            sum += o instanceof V w ? weight(w) : o instanceof R r ? r.n() : 0;
        }
        return sum;
    }

    private long show(V v) {
        String text = text(v);
        refuseIf(text.length() > 4000, FULL);
        shown = text;
        return text.length();
    }

    private String text(Object o) {
        if (o == null) {
            return "!";
        }
        if (o instanceof Boolean b) {
            return b ? "t" : "f";
        }
        if (o instanceof R r) {
            List<String> all = new ArrayList<>();
            cells(r).forEach(cell -> all.add(text(cell)));
            return "[" + String.join(" ", all) + "]";
        }
        if (!(o instanceof V v)) {
            return "" + told(o);
        }
        if (v.kind.enumLike) {
            return "#" + v.label;
        }
        List<String> all = new ArrayList<>();
        for (int i = 0; i < v.parts.length; i++) {
            all.add(v.shape().get(i).label + "=" + text(v.parts[i]));
        }
        return kinds.indexOf(v.kind) + "(" + String.join(",", all) + ")";
    }

    private long toldOf(int what) {
        refuseIf(what < 0 || what > 5, OUTSIDE);
        long started = kinds.stream().filter(k -> k.started).count();
        return new long[] {rows.size(), kinds.size(), families.size(), values.size(), started, faults}[what];
    }
}
