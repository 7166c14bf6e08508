import java.util.Arrays;

/** Promise 3. The sentences stand above the tests. */
public final class DefineTest {
    private static final String FOURTEEN = "cons " + Check.pairs(7, "1") + " nil";
    private static final String FIFTEEN = Check.pairs(8, "1");

    public static void main(String[] args) {
        getsTheDraft();
        badFunction();
        badParameters();
        badLosesNothing();
        callersLoseTheirBodies();
        bodiesAreLostFirst();
        ownCallsKeepABody();
        tooManyTokens();
        missingTokens();
        unboundVar();
        unboundBinder();
        unboundCall();
        typeOfEachRule();
        typeOfCalls();
        typeAtTheLastToken();
        infiniteTypes();
        large();
        hugeTypes();
        noBodyThen();
        orderOfAnswers();
        Check.end();
    }

    /** Function f gets so many parameters and the draft as its body, which is empty then. */
    private static void getsTheDraft() {
        Shop x = new Shop();
        Check.typed(x, 0, 2, "pair v1 v0", "10 11 2 11 10");
        Check.due("define with nothing in the draft", x.define(1, 0), MonoShop.SHAPE);
        Check.due("place", x.place(), 0);
        Check.ran(x, "c0 5 true", MonoShop.OK, 1, "1 5");
        Check.typed(x, 0, 1, "v0", "10 10");
        Check.ran(x, "c0 5", MonoShop.OK, 1, "5");
    }

    /** BAD (the draft stays) if f is outside. */
    private static void badFunction() {
        int[] outside = {-1, 5, 9, 10, 11, Integer.MIN_VALUE, Integer.MAX_VALUE};
        Shop x = new Shop();
        Check.draft(x, "5");
        for (int f : outside) {
            Check.due("define " + f, x.define(f, 0), MonoShop.BAD);
        }
        Check.due("define 4 with the draft that stayed", x.define(4, 0), MonoShop.OK);
        Check.due("type", Check.typeOf(x, 4), "0");
        Check.due("define -1 with an empty draft", x.define(-1, 0), MonoShop.BAD);
        Check.draft(x, "true");
        Check.due("define 0", x.define(0, 0), MonoShop.OK);
        Check.due("type", Check.typeOf(x, 0), "1");
    }

    /** BAD (the draft stays) if parameters are outside. */
    private static void badParameters() {
        int[] outside = {-1, 3, Integer.MIN_VALUE, Integer.MAX_VALUE};
        Shop x = new Shop();
        Check.draft(x, "lam v2");
        for (int parameters : outside) {
            Check.due("define with " + parameters, x.define(0, parameters), MonoShop.BAD);
            Check.due("define of no function with " + parameters, x.define(5, parameters), MonoShop.BAD);
        }
        Check.due("define with 2 and the draft that stayed", x.define(0, 2), MonoShop.OK);
        Check.due("type", Check.typeOf(x, 0), "10 11 4 12 12");
        Check.draft(x, "lam v0");
        Check.due("define with 3", x.define(0, 3), MonoShop.BAD);
        Check.due("define with 0", x.define(0, 0), MonoShop.OK);
        Check.due("type", Check.typeOf(x, 0), "4 10 10");
    }

    /** BAD: nothing else happens. */
    private static void badLosesNothing() {
        Shop x = new Shop();
        Check.defined(x, 0, 1, "v0");
        Check.defined(x, 1, 0, "c0 true");
        Check.refused(x, 2, 0, "add 1", MonoShop.SHAPE, 2);
        Check.draft(x, "add 1 2");
        Check.due("define", x.define(0, 3), MonoShop.BAD);
        Check.due("place", x.place(), 2);
        Check.due("type of 0", Check.typeOf(x, 0), "10 10");
        Check.due("type of 1", Check.typeOf(x, 1), "1");
        Check.due("make", x.make(1), MonoShop.OK);
        Check.runs(x, "what was there", MonoShop.OK, 1, "1");
        Check.due("define", x.define(0, 2), MonoShop.OK);
        Check.due("place", x.place(), -1);
        Check.due("type of 0", Check.typeOf(x, 0), "10 11 0");
        Check.due("type of 1", Check.typeOf(x, 1), "");
    }

    private static String withBodies(Shop x) {
        String all = "";
        for (int f = 0; f < 5; f++) {
            all += x.type(f, 0) == -1 ? "" : f;
        }
        return all;
    }

    private static Shop chain(int... functions) {
        Shop x = new Shop();
        for (int i = 0; i < functions.length; i++) {
            Check.defined(x, functions[i], 1, i == 0 ? "v0" : "if true v0 c" + functions[i - 1] + " v0");
        }
        return x;
    }

    /** Defines function f anew in a chain; those in front of it keep their bodies, those behind it don't. */
    private static void definedAnew(int[] chain, int f, String body, int answer) {
        Shop x = chain(chain);
        Check.due("bodies", withBodies(x), "01234");
        Check.due("define " + f + " as " + body, Check.define(x, f, 1, body), answer);
        boolean[] keeps = new boolean[5];
        for (int i = 0; chain[i] != f; i++) {
            keeps[chain[i]] = true;
        }
        keeps[f] = answer == MonoShop.OK;
        String left = "";
        for (int g = 0; g < 5; g++) {
            left += keeps[g] ? g : "";
        }
        Check.due("bodies of chain " + Arrays.toString(chain) + " with a new " + f + ", " + body, withBodies(x), left);
    }

    /** First f, and all functions that have a CALL of one without a body, again and again, lose their bodies. */
    private static void callersLoseTheirBodies() {
        int[][] chains = {{0, 1, 2, 3, 4}, {4, 3, 2, 1, 0}, {0, 3, 1, 4, 2}, {2, 4, 1, 3, 0}, {3, 0, 4, 2, 1}};
        for (int[] chain : chains) {
            for (int f = 0; f < 5; f++) {
                definedAnew(chain, f, "v0", MonoShop.OK);
                definedAnew(chain, f, "add", MonoShop.SHAPE);
                definedAnew(chain, f, "v1", MonoShop.UNBOUND);
                definedAnew(chain, f, "add true 1", MonoShop.TYPE);
                definedAnew(chain, f, FIFTEEN, MonoShop.LARGE);
            }
        }
    }

    /** They are lost before the draft is looked at, and don't come back. */
    private static void bodiesAreLostFirst() {
        Shop x = new Shop();
        Check.defined(x, 0, 1, "v0");
        Check.defined(x, 1, 1, "c0 v0");
        Check.defined(x, 2, 0, "nil");
        // Function 1 is lost with function 0, so that its CALL has no operand.
        Check.refused(x, 0, 1, "c1 v0", MonoShop.SHAPE, 1);
        Check.due("bodies", withBodies(x), "2");
        Check.defined(x, 0, 1, "v0");
        Check.due("bodies", withBodies(x), "02");
        Check.defined(x, 1, 1, "c0 v0");
        Check.refused(x, 0, 1, "c1", MonoShop.UNBOUND, 0);
        Check.due("bodies", withBodies(x), "2");
        Check.typed(x, 0, 1, "c2", "10 3 11");
        Check.due("bodies", withBodies(x), "02");
        // The last of several calls is enough.
        Check.defined(x, 1, 0, "pair c2 pair c2 c0 1");
        Check.defined(x, 0, 0, "1");
        Check.due("bodies", withBodies(x), "02");
    }

    private static void ownCallsKeepABody() {
        Shop x = new Shop();
        Check.defined(x, 0, 1, "c0 v0");
        Check.defined(x, 1, 0, "1");
        Check.defined(x, 2, 1, "if true c2 v0 c0 v0");
        Check.defined(x, 1, 0, "2");
        Check.due("bodies", withBodies(x), "012");
        Check.defined(x, 0, 1, "c0 v0");
        Check.due("bodies", withBodies(x), "01");
    }

    /** SHAPE: the first token such that no expression begins with the tokens up to it. */
    private static void tooManyTokens() {
        Shop x = new Shop();
        Check.typed(x, 0, 0, "1", "0");
        Check.refused(x, 0, 0, "1 2", MonoShop.SHAPE, 1);
        Check.refused(x, 0, 0, "1 2 3", MonoShop.SHAPE, 1);
        Check.typed(x, 0, 0, "pair 1 2", "2 0 0");
        Check.refused(x, 0, 0, "pair 1 2 add", MonoShop.SHAPE, 3);
        Check.typed(x, 0, 0, "if true 1 2", "0");
        Check.refused(x, 0, 0, "if true 1 2 3 4", MonoShop.SHAPE, 4);
        Check.typed(x, 0, 0, "lam v0", "4 10 10");
        Check.refused(x, 0, 0, "lam v0 v0", MonoShop.SHAPE, 2);
        Check.refused(x, 0, 0, "add 1 ".repeat(11) + "2 3", MonoShop.SHAPE, 23);
        Check.typed(x, 0, 0, "add 1 ".repeat(11) + "2", "0");
    }

    /** SHAPE: or their number if some are missing. */
    private static void missingTokens() {
        Shop x = new Shop();
        String[] whole = {"1", "first pair 1 2", "second pair 1 2", "lam 1", "pair 1 2", "cons 1 nil", "add 1 2", "less 1 2",
            "let 1 2", "app lam 1 2", "if true 1 2", "case nil 1 2"};
        for (String body : whole) {
            Shop y = new Shop();
            Check.defined(y, 0, 0, body);
            for (String part = body; !part.isEmpty();) {
                part = part.substring(0, Math.max(0, part.lastIndexOf(' ')));
                Check.refused(y, 0, 0, part, MonoShop.SHAPE, Check.tokens(part).size());
            }
        }
        Check.refused(x, 0, 0, "add 1 ".repeat(11), MonoShop.SHAPE, 22);
        Check.refused(x, 0, 0, "add ".repeat(23), MonoShop.SHAPE, 23);
        Check.refused(x, 0, 0, "add ".repeat(24), MonoShop.SHAPE, 24);
        Check.refused(x, 0, 2, "c0 1", MonoShop.SHAPE, 2);
        Check.refused(x, 0, 1, "c0 c0 c0", MonoShop.SHAPE, 3);
    }

    /** UNBOUND: the first VAR not bound at its place. */
    private static void unboundVar() {
        for (int parameters = 0; parameters <= 2; parameters++) {
            Shop x = new Shop();
            Check.refused(x, 0, parameters, "v" + parameters, MonoShop.UNBOUND, 0);
            Check.refused(x, 0, parameters, "v9", MonoShop.UNBOUND, 0);
            Check.refused(x, 0, parameters, "pair 1 v" + parameters, MonoShop.UNBOUND, 2);
            Check.refused(x, 0, parameters, "pair v" + parameters + " v9", MonoShop.UNBOUND, 1);
            for (int k = 0; k < parameters; k++) {
                Check.defined(x, 0, parameters, "pair 1 v" + k);
            }
        }
        Shop x = new Shop();
        Check.defined(x, 0, 0, "case cons 1 nil pair 0 nil let 2 pair v2 v1");
        Check.refused(x, 0, 0, "case cons 1 nil pair 0 nil pair let 2 v2 v2", MonoShop.UNBOUND, 11);
        Check.refused(x, 0, 0, "case cons 1 nil pair v0 nil let 2 pair v3 v1", MonoShop.UNBOUND, 5);
        Check.refused(x, 0, 0, "lam " + "add 1 ".repeat(11) + "v1", MonoShop.UNBOUND, 23);
    }

    /** UNBOUND: the first binder of more than 10. */
    private static void unboundBinder() {
        Shop x = new Shop();
        Check.defined(x, 0, 0, "let 1 ".repeat(10) + "1");
        Check.refused(x, 0, 0, "let 1 ".repeat(11) + "1", MonoShop.UNBOUND, 20);
        Check.defined(x, 0, 0, "case nil 1 ".repeat(5) + "1");
        Check.refused(x, 0, 0, "case nil 1 ".repeat(6) + "1", MonoShop.UNBOUND, 15);
        Check.refused(x, 0, 1, "case nil 1 ".repeat(5) + "1", MonoShop.UNBOUND, 12);
        Check.refused(x, 0, 0, "lam ".repeat(10) + "1", MonoShop.LARGE, -1);
        Check.refused(x, 0, 0, "lam ".repeat(11) + "1", MonoShop.UNBOUND, 10);
        Check.refused(x, 0, 0, "lam ".repeat(23) + "1", MonoShop.UNBOUND, 10);
        // The operands that are no F have no more bound than the binder itself.
        Check.defined(x, 0, 0, "let 1 ".repeat(8) + "case nil case nil v0 v8 v8");
        Check.refused(x, 0, 0, "let 1 ".repeat(9) + "case nil v0 v0", MonoShop.UNBOUND, 18);
        Check.defined(x, 0, 0, "let ".repeat(11) + "1 v0" + " v0".repeat(10));
    }

    /** UNBOUND: the first CALL of a function that has no body and isn't f. */
    private static void unboundCall() {
        Shop x = new Shop();
        for (int g = 1; g < 5; g++) {
            Check.refused(x, 0, 0, "add c0 c" + g, MonoShop.UNBOUND, 2);
        }
        Check.defined(x, 0, 0, "add c0 c0");
        Check.defined(x, 1, 0, "1");
        Check.defined(x, 2, 0, "add c2 c1");
        Check.refused(x, 1, 0, "add c1 c2", MonoShop.UNBOUND, 2);
        Check.refused(x, 3, 0, "add c1 v9", MonoShop.UNBOUND, 1);
        Check.refused(x, 3, 0, "add v9 c1", MonoShop.UNBOUND, 1);
        Check.refused(x, 3, 0, "add c0 lam c4", MonoShop.UNBOUND, 3);
        Check.refused(x, 3, 0, "lam " + "add 1 ".repeat(11) + "c4", MonoShop.UNBOUND, 23);
    }

    /** TYPE: the first token such that the rules of the tokens up to it cannot all hold. */
    private static void typeOfEachRule() {
        Object[][] wrong = {{"add true 1", 1}, {"add 1 false", 2}, {"add less 1 2 3", 1}, {"less 1 nil", 2},
            {"less true 1", 1}, {"if 1 2 3", 1}, {"if true 2 false", 3}, {"add if true 2 3 if true true true", 7},
            {"first 1", 1}, {"second nil", 1}, {"add 1 first pair true 1", 4}, {"add 1 second pair 1 true", 5},
            {"cons 1 2", 2}, {"cons 1 cons true nil", 3}, {"case 1 2 3", 1}, {"case cons 1 nil true v0", 5},
            {"case cons 1 nil 2 v1", 5}, {"let true add v0 1", 3}, {"app 1 2", 1}, {"app lam add v0 1 true", 5},
            {"add 1 app lam true 1", 4}, {"add 1 lam v0", 2}, {"add 1 pair 2 3", 2}, {"if lam v0 1 2", 1},
            {"add 1 cons 2 nil", 2}, {"if add 1 2 3 4", 1}, {"add 1 true", 2}, {"if case nil 1 2 3 4", 3}};
        Object[][] right = {{"add 2 1", "0"}, {"add 1 add 2 3", "0"}, {"if true 2 3", "0"}, {"if less 1 2 2 3", "0"},
            {"add 1 first pair 1 true", "0"}, {"add 1 second pair true 1", "0"}, {"cons 1 cons 2 nil", "3 0"},
            {"case cons 1 nil 2 v0", "0"}, {"case cons 1 nil nil v1", "3 0"}, {"let 1 add v0 1", "0"},
            {"app lam add v0 1 2", "0"}, {"add 1 app lam 2 true", "0"}, {"if false 1 2", "0"}, {"app lam v0 nil", "3 10"}};
        for (Object[] one : wrong) {
            Shop x = new Shop();
            Check.defined(x, 0, 0, "1");
            Check.refused(x, 0, 0, (String) one[0], MonoShop.TYPE, (Integer) one[1]);
            Check.refused(x, 0, 0, "pair 7 " + one[0], MonoShop.TYPE, 2 + (Integer) one[1]);
        }
        for (Object[] one : right) {
            Shop x = new Shop();
            Check.typed(x, 0, 0, (String) one[0], (String) one[1]);
            Check.typed(x, 0, 0, "pair 7 " + one[0], "2 0 " + one[1]);
        }
    }

    private static void typeOfCalls() {
        Shop x = new Shop();
        Check.defined(x, 1, 2, "pair v0 add v1 1");
        Check.refused(x, 0, 0, "c1 1 true", MonoShop.TYPE, 2);
        Check.refused(x, 0, 0, "add 1 c1 1 1", MonoShop.TYPE, 2);
        Check.typed(x, 0, 0, "pair c1 1 2 c1 true 2", "2 2 0 0 2 1 0");
        Check.refused(x, 0, 1, "if true v0 add c0 true 1", MonoShop.TYPE, 5);
        Check.refused(x, 0, 1, "pair c0 1 c0 true", MonoShop.TYPE, 1);
        Check.refused(x, 0, 1, "let c0 1 c0 true", MonoShop.TYPE, 4);
        Check.typed(x, 0, 1, "let c0 1 c0 2", "0 10");
    }

    private static void typeAtTheLastToken() {
        Shop x = new Shop();
        Check.typed(x, 0, 0, "lam " + "add 1 ".repeat(11) + "v0", "4 0 0");
        Check.refused(x, 0, 0, "lam " + "add 1 ".repeat(11) + "true", MonoShop.TYPE, 23);
        // No token alone breaks a rule: the first place there can be is 1.
        Check.typed(x, 0, 0, "second pair 1 2", "0");
        Check.refused(x, 0, 0, "second second pair 1 2", MonoShop.TYPE, 4);
        Check.refused(x, 0, 0, "second 1", MonoShop.TYPE, 1);
    }

    private static void infiniteTypes() {
        Shop x = new Shop();
        Check.refused(x, 0, 0, "lam app v0 v0", MonoShop.TYPE, 3);
        Check.refused(x, 0, 1, "cons c0 v0 nil", MonoShop.TYPE, 1);
        Check.refused(x, 0, 1, "pair 1 c0 c0 v0", MonoShop.TYPE, 2);
        Check.refused(x, 0, 1, "if true v0 if true first v0 second v0", MonoShop.TYPE, 6);
        Check.typed(x, 0, 1, "if true first v0 second v0", "2 10 10 10");
        Check.typed(x, 0, 0, "lam lam app v0 v1", "4 4 10 11 4 10 11");
    }

    /** LARGE: the type of a token or variable is LARGE. */
    private static void large() {
        Shop x = new Shop();
        Check.defined(x, 0, 0, FOURTEEN);
        Check.refused(x, 0, 0, FIFTEEN, MonoShop.LARGE, -1);
        Check.typed(x, 0, 0, "let " + FOURTEEN + " 1", "0");
        Check.refused(x, 0, 0, "let " + FIFTEEN + " 1", MonoShop.LARGE, -1);
        Check.refused(x, 0, 0, "first pair 1 " + FOURTEEN, MonoShop.LARGE, -1);
        Check.refused(x, 0, 0, "let lam " + FOURTEEN + " 1", MonoShop.LARGE, -1);
        Shop y = new Shop();
        Check.typed(y, 0, 0, "case nil 1 let cons v0 " + FOURTEEN + " 2", "0");
        Check.refused(y, 0, 0, "case nil 1 let cons v1 cons " + FOURTEEN + " nil 2", MonoShop.LARGE, -1);
        Check.refused(y, 0, 0, "app lam 1 " + FOURTEEN, MonoShop.LARGE, -1);
        Check.typed(y, 0, 0, "app lam 1 cons " + Check.pairs(6, "1") + " nil", "0");
        // A parameter that is used as what has 14 codes, and as what has 15.
        Check.defined(y, 0, 0, FOURTEEN);
        Check.typed(y, 1, 1, "let if true v0 c0 1", "3 2 0 2 0 2 0 2 0 2 0 2 0 0 0");
        Check.refused(y, 1, 1, "let if true v0 " + FIFTEEN + " 1", MonoShop.LARGE, -1);
    }

    private static void hugeTypes() {
        Shop x = new Shop();
        Check.defined(x, 0, 1, Check.pairs(7, "v0"));
        Check.refused(x, 1, 1, "c0 ".repeat(23) + "v0", MonoShop.LARGE, -1);
        Check.refused(x, 1, 2, "if true " + "c0 ".repeat(10) + "v0 " + "c0 ".repeat(10) + "v1", MonoShop.LARGE, -1);
        Check.refused(x, 1, 2, "if true " + "c0 ".repeat(9) + "v0 " + "c0 ".repeat(10) + "v0", MonoShop.TYPE, 22);
    }

    /** In these cases f has no body. */
    private static void noBodyThen() {
        String[] bodies = {"1", "add", "v0", "add true 1", FIFTEEN};
        int[] answers = {MonoShop.OK, MonoShop.SHAPE, MonoShop.UNBOUND, MonoShop.TYPE, MonoShop.LARGE};
        for (int i = 0; i < bodies.length; i++) {
            Shop x = new Shop();
            Check.typed(x, 0, 0, "true", "1");
            Check.due("define as " + bodies[i], Check.define(x, 0, 0, bodies[i]), answers[i]);
            Check.due("type after " + bodies[i], Check.typeOf(x, 0), i == 0 ? "0" : "");
            Check.due("make after " + bodies[i], x.make(0), i == 0 ? MonoShop.OK : MonoShop.BAD);
            Check.due("run after " + bodies[i], x.run(), i == 0 ? MonoShop.OK : MonoShop.BAD);
            Check.due("a CALL after " + bodies[i], Check.define(x, 1, 0, "c0"), i == 0 ? MonoShop.OK : MonoShop.UNBOUND);
            Check.typed(x, 0, 0, "true", "1");
        }
    }

    /** First SHAPE, then UNBOUND, then TYPE, then LARGE, wherever in the body each of them is. */
    private static void orderOfAnswers() {
        Shop x = new Shop();
        Check.refused(x, 0, 0, "add v0", MonoShop.SHAPE, 2);
        Check.refused(x, 0, 0, "add v0 1 2", MonoShop.SHAPE, 3);
        Check.refused(x, 0, 0, "add true v0", MonoShop.UNBOUND, 2);
        Check.refused(x, 0, 0, "pair add true c2 v0", MonoShop.UNBOUND, 3);
        Check.refused(x, 0, 0, "add cons " + FOURTEEN + " nil true", MonoShop.TYPE, 1);
        Check.refused(x, 0, 0, "if true cons " + FOURTEEN + " nil true", MonoShop.TYPE, 19);
        Check.refused(x, 0, 0, "pair " + FIFTEEN + " add 1 true", MonoShop.TYPE, 18);
        Check.refused(x, 0, 0, "pair " + FIFTEEN + " add 1 v0", MonoShop.UNBOUND, 18);
        Check.refused(x, 0, 0, "pair " + FIFTEEN + " add 1 1", MonoShop.LARGE, -1);
    }
}
