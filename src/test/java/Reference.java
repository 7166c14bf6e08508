import java.util.ArrayList;
import java.util.Collections;
import java.util.HashMap;
import java.util.IdentityHashMap;
import java.util.List;
import java.util.Map;
import java.util.Set;

/** The document told a second time, with trees, maps and recursion, so that RandomTest has something to compare with. */
final class Reference {
    static final int[] OPERANDS = {0, 0, 0, 0, -1, 2, 1, 1, 0, 2, 3, 3, 2, 2, 2, 1, 2};

    /** A type: code 0..4, or 10 for a variable, which may be bound. */
    static final class T {
        final int code;
        final T[] parts;
        T bound;

        T(int code, T... parts) {
            this.code = code;
            this.parts = parts;
        }

        static T fresh() {
            return new T(10);
        }

        T real() {
            return bound == null ? this : bound.real();
        }
    }

    static final class Clash extends RuntimeException {
        private static final long serialVersionUID = 1L;
    }

    static final class Stop extends RuntimeException {
        private static final long serialVersionUID = 1L;
        final int answer;

        Stop(int answer) {
            this.answer = answer;
        }
    }

    static final class Node {
        int index;
        int kind;
        int value;
        List<Node> operands = new ArrayList<>();
        int bound;
        T type;
        List<T> scope;
        List<T> own = new ArrayList<>();
    }

    static final class Function {
        int parameters;
        List<int[]> tokens;
        Node body;
        List<Integer> type;
    }

    static final class Closure {
        Node lam;
        List<Object> kept;
    }

    record Instance(int function, List<Integer> codes) {
    }

    final Function[] functions = new Function[5];
    List<int[]> draft = new ArrayList<>();
    int place = -1;
    List<Instance> made = new ArrayList<>();
    Function[] madeFunctions;
    int steps = 0;
    List<Long> written = new ArrayList<>();

    boolean token(int kind, int value) {
        if (kind < 0 || kind > 16 || draft.size() == 24 || kind == 3 && (value < 0 || value > 9)
            || kind == 4 && (value < 0 || value > 4)) {
            return false;
        }
        draft.add(new int[] {kind, value});
        return true;
    }

    int define(int f, int parameters) {
        if (f < 0 || f > 4 || parameters < 0 || parameters > 2) {
            return -1;
        }
        functions[f] = null;
        for (boolean again = true; again;) {
            again = false;
            for (int g = 0; g < 5; g++) {
                if (functions[g] != null
                    && functions[g].tokens.stream().anyMatch(t -> t[0] == 4 && functions[t[1]] == null)) {
                    functions[g] = null;
                    again = true;
                }
            }
        }
        List<int[]> tokens = draft;
        draft = new ArrayList<>();
        int answer = look(f, parameters, tokens);
        if (answer == 0 || answer == 4) {
            place = -1;
        }
        return answer;
    }

    private int look(int f, int parameters, List<int[]> tokens) {
        int[] at = {0};
        List<Node> nodes = new ArrayList<>();
        Node body = parse(tokens, at, nodes, f, parameters, parameters);
        if (body == null || at[0] < tokens.size()) {
            place = at[0];
            return 1;
        }
        for (Node n : nodes) {
            int more = n.kind == 10 ? 2 : n.kind == 14 || n.kind == 15 ? 1 : 0;
            if (n.kind == 3 && n.value >= n.bound || more > 0 && n.bound + more > 10
                || n.kind == 4 && n.value != f && functions[n.value] == null) {
                place = n.index;
                return 2;
            }
        }
        List<T> types = null;
        for (int i = 0; i < nodes.size(); i++) {
            try {
                types = infer(nodes, f, parameters, i + 1);
            } catch (Clash c) {
                place = i;
                return 3;
            }
        }
        if (isLarge(nodes, types)) {
            return 4;
        }
        Function made = new Function();
        made.parameters = parameters;
        made.tokens = tokens;
        made.body = body;
        made.type = codes(types, false);
        functions[f] = made;
        return 0;
    }

    private Node parse(List<int[]> tokens, int[] at, List<Node> nodes, int f, int parameters, int bound) {
        if (at[0] == tokens.size()) {
            return null;
        }
        Node n = new Node();
        n.index = at[0]++;
        n.kind = tokens.get(n.index)[0];
        n.value = tokens.get(n.index)[1];
        n.bound = bound;
        nodes.add(n);
        int count = OPERANDS[n.kind];
        if (n.kind == 4) {
            count = n.value == f ? parameters : functions[n.value] == null ? 0 : functions[n.value].parameters;
        }
        for (int j = 0; j < count; j++) {
            int more = n.kind == 10 && j == 2 ? 2 : n.kind == 14 && j == 1 || n.kind == 15 ? 1 : 0;
            Node operand = parse(tokens, at, nodes, f, parameters, bound + more);
            if (operand == null) {
                return null;
            }
            n.operands.add(operand);
        }
        return n;
    }

    /** The types of parameters and body, by the rules of the first so many tokens. */
    private List<T> infer(List<Node> nodes, int f, int parameters, int rules) {
        List<T> types = new ArrayList<>();
        for (int p = 0; p < parameters; p++) {
            types.add(T.fresh());
        }
        scope(nodes.get(0), types);
        types = new ArrayList<>(types);
        types.add(nodes.get(0).type);
        for (int i = 0; i < rules; i++) {
            rule(nodes.get(i), f, types);
        }
        return types;
    }

    private void scope(Node n, List<T> scope) {
        n.type = T.fresh();
        n.scope = scope;
        n.own = new ArrayList<>();
        for (int i = 0; i < (n.kind == 10 ? 2 : n.kind == 14 || n.kind == 15 ? 1 : 0); i++) {
            n.own.add(T.fresh());
        }
        for (int j = 0; j < n.operands.size(); j++) {
            List<T> inner = scope;
            if (!n.own.isEmpty() && j == n.operands.size() - 1) {
                inner = new ArrayList<>(scope);
                inner.addAll(n.own);
            }
            scope(n.operands.get(j), inner);
        }
    }

    private void rule(Node n, int f, List<T> types) {
        T[] o = n.operands.stream().map(x -> x.type).toArray(T[]::new);
        T whole = new T(0);
        T truth = new T(1);
        switch (n.kind) {
            case 0 -> unify(n.type, whole);
            case 1, 2 -> unify(n.type, truth);
            case 3 -> unify(n.type, n.scope.get(n.value));
            case 4 -> {
                List<T> expected = n.value == f ? types : read(functions[n.value].type);
                for (int j = 0; j < o.length; j++) {
                    unify(o[j], expected.get(j));
                }
                unify(n.type, expected.get(o.length));
            }
            case 5 -> unify(n.type, new T(2, o[0], o[1]));
            case 6 -> unify(o[0], new T(2, n.type, T.fresh()));
            case 7 -> unify(o[0], new T(2, T.fresh(), n.type));
            case 8 -> unify(n.type, new T(3, T.fresh()));
            case 9 -> {
                unify(n.type, o[1]);
                unify(o[1], new T(3, o[0]));
            }
            case 10 -> {
                unify(o[0], new T(3, n.own.get(0)));
                unify(o[0], n.own.get(1));
                unify(o[1], n.type);
                unify(o[2], n.type);
            }
            case 11 -> {
                unify(o[0], truth);
                unify(o[1], n.type);
                unify(o[2], n.type);
            }
            case 12, 13 -> {
                unify(o[0], whole);
                unify(o[1], whole);
                unify(n.type, n.kind == 12 ? whole : truth);
            }
            case 14 -> {
                unify(n.own.get(0), o[0]);
                unify(n.type, o[1]);
            }
            case 15 -> unify(n.type, new T(4, n.own.get(0), o[0]));
            default -> unify(o[0], new T(4, o[1], n.type));
        }
    }

    private static void unify(T left, T right) {
        T a = left.real();
        T b = right.real();
        if (a == b) {
            return;
        }
        if (a.code == 10 || b.code == 10) {
            T variable = a.code == 10 ? a : b;
            T other = a.code == 10 ? b : a;
            if (holds(other, variable, Collections.newSetFromMap(new IdentityHashMap<>()))) {
                throw new Clash();
            }
            variable.bound = other;
            return;
        }
        if (a.code != b.code) {
            throw new Clash();
        }
        for (int i = 0; i < a.parts.length; i++) {
            unify(a.parts[i], b.parts[i]);
        }
    }

    private static boolean holds(T type, T variable, Set<T> seen) {
        T t = type.real();
        if (t == variable) {
            return true;
        }
        if (seen.add(t)) {
            for (T part : t.parts) {
                if (holds(part, variable, seen)) {
                    return true;
                }
            }
        }
        return false;
    }

    private static long size(T type, Map<T, Long> known) {
        T t = type.real();
        if (!known.containsKey(t)) {
            long size = 1;
            for (T part : t.parts) {
                size = Math.min(1000, size + size(part, known));
            }
            known.put(t, size);
        }
        return known.get(t);
    }

    private static boolean isLarge(List<Node> nodes, List<T> types) {
        Map<T, Long> known = new IdentityHashMap<>();
        boolean large = types.stream().anyMatch(t -> size(t, known) > 14);
        for (Node n : nodes) {
            large |= size(n.type, known) > 14 || n.own.stream().anyMatch(t -> size(t, known) > 14);
        }
        return large;
    }

    private static List<Integer> codes(List<T> types, boolean closed) {
        List<Integer> codes = new ArrayList<>();
        Map<T, Integer> numbers = new IdentityHashMap<>();
        types.forEach(t -> write(t, closed, codes, numbers));
        return codes;
    }

    private static void write(T type, boolean closed, List<Integer> codes, Map<T, Integer> numbers) {
        T t = type.real();
        if (t.code == 10) {
            int next = numbers.size();
            codes.add(closed ? 0 : 10 + numbers.computeIfAbsent(t, x -> next));
            return;
        }
        codes.add(t.code);
        for (T part : t.parts) {
            write(part, closed, codes, numbers);
        }
    }

    private static List<T> read(List<Integer> codes) {
        List<T> types = new ArrayList<>();
        Map<Integer, T> variables = new HashMap<>();
        int[] at = {0};
        while (at[0] < codes.size()) {
            types.add(readOne(codes, at, variables));
        }
        return types;
    }

    private static T readOne(List<Integer> codes, int[] at, Map<Integer, T> variables) {
        int code = codes.get(at[0]++);
        if (code >= 10) {
            return variables.computeIfAbsent(code, c -> T.fresh());
        }
        if (code < 2) {
            return new T(code);
        }
        T first = readOne(codes, at, variables);
        return code == 3 ? new T(3, first) : new T(code, first, readOne(codes, at, variables));
    }

    int type(int f, int k) {
        return f < 0 || f > 4 || functions[f] == null || k < 0 || k >= functions[f].type.size() ? -1
            : functions[f].type.get(k);
    }

    int make(int f) {
        if (f < 0 || f > 4 || functions[f] == null || functions[f].parameters > 0) {
            return -1;
        }
        made = new ArrayList<>();
        made.add(new Instance(f, codes(read(functions[f].type), true)));
        for (int i = 0; i < made.size(); i++) {
            if (made.size() > 12 || !goThrough(made.get(i))) {
                made = new ArrayList<>();
                return 4;
            }
        }
        madeFunctions = functions.clone();
        return 0;
    }

    private boolean goThrough(Instance instance) {
        Function function = functions[instance.function];
        List<Node> nodes = new ArrayList<>();
        parse(function.tokens, new int[] {0}, nodes, instance.function, function.parameters, function.parameters);
        List<T> types = infer(nodes, instance.function, function.parameters, nodes.size());
        List<T> given = read(instance.codes);
        for (int i = 0; i < types.size(); i++) {
            unify(types.get(i), given.get(i));
        }
        if (isLarge(nodes, types)) {
            return false;
        }
        for (Node n : nodes) {
            if (n.kind == 4) {
                List<T> called = new ArrayList<>();
                n.operands.forEach(o -> called.add(o.type));
                called.add(n.type);
                Instance wanted = new Instance(n.value, codes(called, true));
                if (!made.contains(wanted)) {
                    made.add(wanted);
                }
            }
        }
        return true;
    }

    int instance(int i, int k) {
        if (i < 0 || i >= made.size() || k < 0 || k > made.get(i).codes.size()) {
            return -1;
        }
        return k == 0 ? made.get(i).function : made.get(i).codes.get(k - 1);
    }

    private int depth;
    private int conses;
    private int lams;

    int run() {
        steps = 0;
        depth = 0;
        conses = 0;
        lams = 0;
        written = new ArrayList<>();
        if (made.isEmpty()) {
            return -1;
        }
        try {
            Object value = work(madeFunctions[made.get(0).function].body, new ArrayList<>());
            writeOut(value, read(made.get(0).codes).get(0));
            return 0;
        } catch (Stop stop) {
            return stop.answer;
        }
    }

    private Object step(Node body, List<Object> bound) {
        if (steps == 200) {
            throw new Stop(5);
        }
        steps++;
        if (depth == 20) {
            throw new Stop(6);
        }
        depth++;
        Object value = work(body, bound);
        depth--;
        return value;
    }

    private Object work(Node n, List<Object> bound) {
        List<Node> o = n.operands;
        switch (n.kind) {
            case 0:
                return n.value;
            case 1:
            case 2:
                return n.kind == 1;
            case 3:
                return bound.get(n.value);
            case 8:
                return List.of();
            case 10:
                List<?> list = (List<?>) work(o.get(0), bound);
                return list.isEmpty() ? work(o.get(1), bound)
                    : work(o.get(2), with(bound, list.get(0), list.subList(1, list.size())));
            case 11:
                return (Boolean) work(o.get(0), bound) ? work(o.get(1), bound) : work(o.get(2), bound);
            case 14:
                return work(o.get(1), with(bound, work(o.get(0), bound)));
            case 15:
                if (++lams > 40) {
                    throw new Stop(7);
                }
                Closure closure = new Closure();
                closure.lam = n;
                closure.kept = bound;
                return closure;
            default:
                List<Object> worked = new ArrayList<>();
                o.forEach(x -> worked.add(work(x, bound)));
                return combine(n, worked);
        }
    }

    private Object combine(Node n, List<Object> o) {
        switch (n.kind) {
            case 4:
                return step(madeFunctions[n.value].body, o);
            case 5:
                return new Object[] {o.get(0), o.get(1)};
            case 6:
                return ((Object[]) o.get(0))[0];
            case 7:
                return ((Object[]) o.get(0))[1];
            case 9:
                if (++conses > 200) {
                    throw new Stop(7);
                }
                List<Object> list = new ArrayList<>();
                list.add(o.get(0));
                list.addAll((List<?>) o.get(1));
                return list;
            case 12:
                return (Integer) o.get(0) + (Integer) o.get(1);
            case 13:
                return (Integer) o.get(0) < (Integer) o.get(1);
            default:
                Closure closure = (Closure) o.get(0);
                return step(closure.lam.operands.get(0), with(closure.kept, o.get(1)));
        }
    }

    private static List<Object> with(List<Object> bound, Object... more) {
        List<Object> all = new ArrayList<>(bound);
        Collections.addAll(all, more);
        return all;
    }

    private void writeOut(Object value, T type) {
        if (written.size() >= 400) {
            return;
        }
        switch (type.code) {
            case 0 -> written.add((long) (Integer) value);
            case 1 -> written.add((Boolean) value ? 1L : 0L);
            case 2 -> {
                writeOut(((Object[]) value)[0], type.parts[0]);
                writeOut(((Object[]) value)[1], type.parts[1]);
            }
            case 3 -> {
                written.add((long) ((List<?>) value).size());
                ((List<?>) value).forEach(x -> writeOut(x, type.parts[0]));
            }
            default -> written.add(0L);
        }
    }

    long value(int k) {
        return k < 0 || k >= written.size() || k >= 400 ? Check.NOTHING : written.get(k);
    }
}
