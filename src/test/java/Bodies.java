import java.util.ArrayList;
import java.util.List;
import java.util.Random;

/** Makes bodies that are mostly well typed, so that the random runs come as far as making and running. */
final class Bodies {
    private static final int[] PLAIN = {0, 0, 0, 1};
    private final Random random;
    private final Reference reference;
    private int self;
    private List<List<Integer>> selfType;
    private int budget;

    Bodies(Random random, Reference reference) {
        this.random = random;
        this.reference = reference;
    }

    /** Types are lists of codes; a variable stands for itself there, as a type that nothing is known of. */
    List<int[]> body(int f, int parameters) {
        self = f;
        selfType = new ArrayList<>();
        for (int p = 0; p <= parameters; p++) {
            selfType.add(someType(random.nextInt(3), parameters > 0));
        }
        budget = 3 + random.nextInt(12);
        List<int[]> tokens = new ArrayList<>();
        expression(selfType.get(parameters), selfType.subList(0, parameters), tokens, 0);
        if (random.nextInt(4) == 0) {
            spoil(tokens);
        }
        return tokens;
    }

    private void spoil(List<int[]> tokens) {
        int at = random.nextInt(tokens.size());
        switch (random.nextInt(4)) {
            case 0 -> tokens.remove(at);
            case 1 -> tokens.add(at, new int[] {random.nextInt(17), random.nextInt(5)});
            case 2 -> tokens.get(at)[0] = random.nextInt(17);
            default -> tokens.get(at)[1] = random.nextInt(5);
        }
    }

    private List<Integer> someType(int deep, boolean variables) {
        List<Integer> type = new ArrayList<>();
        int choice = deep == 0 ? 0 : random.nextInt(6);
        if (choice < 3) {
            type.add(variables && random.nextInt(3) == 0 ? 10 + random.nextInt(2) : PLAIN[random.nextInt(4)]);
        } else {
            int code = choice == 3 ? 2 : choice == 4 ? 3 : 4;
            type.add(code);
            type.addAll(someType(deep - 1, variables));
            if (code != 3) {
                type.addAll(someType(deep - 1, variables));
            }
        }
        return type;
    }

    private static List<List<Integer>> split(List<Integer> codes) {
        List<List<Integer>> types = new ArrayList<>();
        for (int k = 0; k < codes.size();) {
            int from = k;
            for (int need = 1; need > 0; k++) {
                int code = codes.get(k);
                need += code == 3 ? 0 : code == 2 || code == 4 ? 1 : -1;
            }
            types.add(codes.subList(from, k));
        }
        return types;
    }

    private static List<Integer> of(int code, List<Integer> first, List<Integer> second) {
        List<Integer> type = new ArrayList<>(List.of(code));
        type.addAll(first);
        type.addAll(second);
        return type;
    }

    private static List<List<Integer>> with(List<List<Integer>> scope, List<List<Integer>> more) {
        List<List<Integer>> all = new ArrayList<>(scope);
        all.addAll(more);
        return all;
    }

    private void expression(List<Integer> type, List<List<Integer>> scope, List<int[]> tokens, int deep) {
        budget--;
        int choice = budget <= 0 || deep > 5 ? 0 : random.nextInt(12);
        List<Integer> other = someType(1, false);
        switch (choice) {
            case 0, 1, 2 -> leaf(type, scope, tokens, deep);
            case 3 -> {
                tokens.add(new int[] {11, 0});
                expression(List.of(1), scope, tokens, deep + 1);
                expression(type, scope, tokens, deep + 1);
                expression(type, scope, tokens, deep + 1);
            }
            case 4 -> {
                tokens.add(new int[] {14, 0});
                expression(other, scope, tokens, deep + 1);
                expression(type, with(scope, List.of(other)), tokens, deep + 1);
            }
            case 5 -> {
                tokens.add(new int[] {10, 0});
                expression(of(3, other, List.of()), scope, tokens, deep + 1);
                expression(type, scope, tokens, deep + 1);
                expression(type, with(scope, List.of(other, of(3, other, List.of()))), tokens, deep + 1);
            }
            case 6 -> {
                tokens.add(new int[] {16, 0});
                expression(of(4, other, type), scope, tokens, deep + 1);
                expression(other, scope, tokens, deep + 1);
            }
            case 7 -> {
                boolean first = random.nextBoolean();
                tokens.add(new int[] {first ? 6 : 7, 0});
                expression(first ? of(2, type, other) : of(2, other, type), scope, tokens, deep + 1);
            }
            case 8, 9 -> call(type, scope, tokens, deep);
            default -> construct(type, scope, tokens, deep);
        }
    }

    private void leaf(List<Integer> type, List<List<Integer>> scope, List<int[]> tokens, int deep) {
        List<Integer> fitting = new ArrayList<>();
        for (int k = 0; k < scope.size() && k < 10; k++) {
            if (scope.get(k).equals(type)) {
                fitting.add(k);
            }
        }
        if (!fitting.isEmpty() && random.nextInt(4) > 0) {
            tokens.add(new int[] {3, fitting.get(random.nextInt(fitting.size()))});
        } else if (type.get(0) == 0) {
            tokens.add(new int[] {0, random.nextInt(8) == 0 ? random.nextInt() : random.nextInt(9) - 2});
        } else if (type.get(0) == 1) {
            tokens.add(new int[] {1 + random.nextInt(2), random.nextInt()});
        } else if (type.get(0) == 3) {
            tokens.add(new int[] {8, -1});
        } else if (type.get(0) < 10) {
            construct(type, scope, tokens, deep);
        } else if (fitting.isEmpty()) {
            // Nothing known makes such a value but a call that never comes back.
            tokens.add(new int[] {4, self});
            for (int p = 0; p < selfType.size() - 1; p++) {
                tokens.add(new int[] {3, p});
            }
        } else {
            tokens.add(new int[] {3, fitting.get(0)});
        }
    }

    private void construct(List<Integer> type, List<List<Integer>> scope, List<int[]> tokens, int deep) {
        List<List<Integer>> parts = split(type.subList(1, type.size()));
        switch (type.get(0)) {
            case 0, 1 -> {
                tokens.add(new int[] {12 + type.get(0), 0});
                expression(List.of(0), scope, tokens, deep + 1);
                expression(List.of(0), scope, tokens, deep + 1);
            }
            case 2 -> {
                tokens.add(new int[] {5, 0});
                expression(parts.get(0), scope, tokens, deep + 1);
                expression(parts.get(1), scope, tokens, deep + 1);
            }
            case 3 -> {
                tokens.add(new int[] {9, 0});
                expression(parts.get(0), scope, tokens, deep + 1);
                expression(type, scope, tokens, deep + 1);
            }
            case 4 -> {
                tokens.add(new int[] {15, 0});
                expression(parts.get(1), with(scope, List.of(parts.get(0))), tokens, deep + 1);
            }
            default -> leaf(type, scope, tokens, deep);
        }
    }

    private void call(List<Integer> type, List<List<Integer>> scope, List<int[]> tokens, int deep) {
        int g = random.nextInt(5);
        List<List<Integer>> types = null;
        if (g == self) {
            types = selfType.get(selfType.size() - 1).equals(type) ? selfType : null;
        } else if (reference.functions[g] != null) {
            types = instance(split(reference.functions[g].type), type);
        }
        if (types == null) {
            construct(type, scope, tokens, deep);
            return;
        }
        tokens.add(new int[] {4, g});
        for (int p = 0; p < types.size() - 1; p++) {
            expression(types.get(p), scope, tokens, deep + 1);
        }
    }

    /** The types with their variables put so that the last one is the wanted one, or null. */
    private List<List<Integer>> instance(List<List<Integer>> types, List<Integer> wanted) {
        List<List<Integer>> chosen = new ArrayList<>();
        for (int v = 0; v < 50; v++) {
            chosen.add(null);
        }
        List<Integer> last = types.get(types.size() - 1);
        int at = 0;
        for (int code : last) {
            List<Integer> here = at < wanted.size() ? split(wanted.subList(at, wanted.size())).get(0) : List.of();
            if (code >= 10 && !here.isEmpty()) {
                chosen.set(code - 10, here);
                at += here.size();
            } else if (here.isEmpty() || here.get(0) != code) {
                return null;
            } else {
                at++;
            }
        }
        List<List<Integer>> put = new ArrayList<>();
        for (List<Integer> type : types) {
            List<Integer> one = new ArrayList<>();
            for (int code : type) {
                if (code >= 10 && chosen.get(code - 10) == null) {
                    chosen.set(code - 10, someType(1, false));
                }
                one.addAll(code >= 10 ? chosen.get(code - 10) : List.of(code));
            }
            put.add(one);
        }
        return put;
    }
}
