import java.util.ArrayList;
import java.util.List;

/** What the tests share: a way to write bodies as text, to read answers as text, and to count wrong ones. */
final class Check {
    static final long NOTHING = 4294967296L;
    private static final List<String> KINDS = List.of("int", "true", "false", "var", "call", "pair", "first", "second",
            "nil", "cons", "case", "if", "add", "less", "let", "lam", "app");
    private static int wrong = 0;

    private Check() {
    }

    static void due(String what, Object got, Object want) {
        if (!String.valueOf(got).equals(String.valueOf(want))) {
            wrong++;
            System.out.println(what + " answered " + got + ", due is " + want);
        }
    }

    static void end() {
        System.exit(wrong == 0 ? 0 : 1);
    }

    /** A number is an INT, v3 is VAR 3, c2 is CALL 2, the others go by their names. */
    static List<int[]> tokens(String body) {
        List<int[]> tokens = new ArrayList<>();
        for (String word : body.isBlank() ? new String[0] : body.trim().split("\\s+")) {
            if (word.matches("-?\\d+")) {
                tokens.add(new int[] {0, Integer.parseInt(word)});
            } else if (word.matches("[vc]\\d")) {
                tokens.add(new int[] {word.charAt(0) == 'v' ? 3 : 4, word.charAt(1) - '0'});
            } else {
                tokens.add(new int[] {KINDS.indexOf(word), 0});
            }
        }
        return tokens;
    }

    static void draft(MonoShop x, String body) {
        for (int[] token : tokens(body)) {
            due("token " + token[0] + " " + token[1] + " of " + body, x.token(token[0], token[1]), true);
        }
    }

    static int define(MonoShop x, int f, int parameters, String body) {
        draft(x, body);
        return x.define(f, parameters);
    }

    static void defined(MonoShop x, int f, int parameters, String body) {
        due("define " + f + " as " + body, define(x, f, parameters, body), MonoShop.OK);
        due("place after " + body, x.place(), -1);
    }

    static void refused(MonoShop x, int f, int parameters, String body, int answer, int place) {
        due("define " + f + " as " + body, define(x, f, parameters, body), answer);
        due("place after " + body, x.place(), place);
        due("type of " + f + " after " + body, typeOf(x, f), "");
    }

    /** Defines function 4 without parameters and makes it. */
    static void made(MonoShop x, String body) {
        defined(x, 4, 0, body);
        due("make of " + body, x.make(4), MonoShop.OK);
    }

    static void ran(MonoShop x, String body, int answer, int steps, String value) {
        made(x, body);
        due("run of " + body, x.run(), answer);
        due("steps of " + body, x.steps(), steps);
        due("value of " + body, valueOf(x), value);
    }

    static String typeOf(MonoShop x, int f) {
        StringBuilder all = new StringBuilder();
        for (int k = 0; x.type(f, k) != -1; k++) {
            all.append(k == 0 ? "" : " ").append(x.type(f, k));
        }
        return all.toString();
    }

    static String instanceOf(MonoShop x, int i) {
        StringBuilder all = new StringBuilder();
        for (int k = 0; x.instance(i, k) != -1; k++) {
            all.append(k == 0 ? "" : k == 1 ? ": " : " ").append(x.instance(i, k));
        }
        return all.toString();
    }

    static String instancesOf(MonoShop x) {
        StringBuilder all = new StringBuilder();
        for (int i = 0; i < x.instances(); i++) {
            all.append(i == 0 ? "" : ", ").append(instanceOf(x, i));
        }
        return all.toString();
    }

    static String valueOf(MonoShop x) {
        StringBuilder all = new StringBuilder();
        for (int k = 0; x.value(k) != NOTHING; k++) {
            all.append(k == 0 ? "" : " ").append(x.value(k));
        }
        return all.toString();
    }
}
