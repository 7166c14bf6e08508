import java.util.ArrayList;
import java.util.List;
import java.util.function.IntToLongFunction;

/** What the tests share: a way to write bodies as text, to read answers as text, and to count wrong ones. */
final class Check {
    static final long NOTHING = 4294967296L;
    private static final List<String> KINDS = List.of("int", "true", "false", "var", "call", "pair", "first", "second",
            "nil", "cons", "case", "if", "add", "less", "let", "lam", "app");
    private static int wrong = 0;

    private Check() {
    }

    static void due(String what, Object got, Object want) {
        if (!String.valueOf(got).equals(String.valueOf(want))) {
            wrong++;
            System.out.println(what + " answered " + got + ", due is " + want);
        }
    }

    static void end() {
        System.exit(wrong == 0 ? 0 : 1);
    }

    /** A number is an INT, v3 is VAR 3, c2 is CALL 2, the others go by their names. */
    static List<int[]> tokens(String body) {
        List<int[]> tokens = new ArrayList<>();
        for (String word : body.isBlank() ? new String[0] : body.trim().split("\\s+")) {
            if (word.matches("-?\\d+")) {
                tokens.add(new int[] {0, Integer.parseInt(word)});
            } else if (word.matches("[vc]\\d")) {
                tokens.add(new int[] {word.charAt(0) == 'v' ? 3 : 4, word.charAt(1) - '0'});
            } else {
                tokens.add(new int[] {KINDS.indexOf(word), 0});
            }
        }
        return tokens;
    }

    /** So many leaves in pairs: of a leaf with one code, the type has twice as many codes, less one. */
    static String pairs(int leaves, String leaf) {
        return ("pair " + leaf + " ").repeat(leaves - 1) + leaf;
    }

    static void draft(Shop x, String body) {
        for (int[] token : tokens(body)) {
            due("token " + token[0] + " " + token[1] + " of " + body, x.token(token[0], token[1]), true);
        }
    }

    static int define(Shop x, int f, int parameters, String body) {
        draft(x, body);
        return x.define(f, parameters);
    }

    static void defined(Shop x, int f, int parameters, String body) {
        due("define " + f + " as " + body, define(x, f, parameters, body), MonoShop.OK);
        due("place after " + body, x.place(), -1);
    }

    static void refused(Shop x, int f, int parameters, String body, int answer, int place) {
        due("define " + f + " as " + body, define(x, f, parameters, body), answer);
        due("place after " + body, x.place(), place);
        due("type of " + f + " after " + body, typeOf(x, f), "");
    }

    static void typed(Shop x, int f, int parameters, String body, String type) {
        defined(x, f, parameters, body);
        due("type of " + body, typeOf(x, f), type);
    }

    /** Defines function 4 without parameters and makes it. */
    static void made(Shop x, String body) {
        defined(x, 4, 0, body);
        due("make of " + body, x.make(4), MonoShop.OK);
    }

    static void makes(Shop x, String body, String instances) {
        made(x, body);
        due("instances of " + body, instancesOf(x), instances);
    }

    /** Defines and makes function 4, which is too much for a make. */
    static void tooLarge(Shop x, String body) {
        defined(x, 4, 0, body);
        due("make of " + body, x.make(4), MonoShop.LARGE);
        due("instances of " + body, x.instances(), 0);
        due("instance of " + body, x.instance(0, 0), -1);
        due("run of " + body, x.run(), MonoShop.BAD);
    }

    static void ran(Shop x, String body, int answer, int steps, String value) {
        made(x, body);
        runs(x, body, answer, steps, value);
    }

    static void runs(Shop x, String what, int answer, int steps, String value) {
        due("run of " + what, x.run(), answer);
        due("steps of " + what, x.steps(), steps);
        due("value of " + what, valueOf(x), value);
    }

    private static String upTo(long end, IntToLongFunction answers) {
        StringBuilder all = new StringBuilder();
        long answer = answers.applyAsLong(0);
        for (int k = 1; answer != end; k++) {
            all.append(all.length() == 0 ? "" : " ").append(answer);
            answer = answers.applyAsLong(k);
        }
        return all.toString();
    }

    static String typeOf(Shop x, int f) {
        return upTo(-1, k -> x.type(f, k));
    }

    static String instanceOf(Shop x, int i) {
        return upTo(-1, k -> x.instance(i, k)).replaceFirst(" ", ": ");
    }

    static String instancesOf(Shop x) {
        List<String> all = new ArrayList<>();
        int count = x.instances();
        for (int i = 0; i < count; i++) {
            all.add(instanceOf(x, i));
        }
        return String.join(", ", all);
    }

    static String valueOf(Shop x) {
        return upTo(NOTHING, k -> x.value(k));
    }
}
