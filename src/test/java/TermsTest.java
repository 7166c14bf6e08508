/** "Terms": each sentence that names an edge, on both sides of it. The sentences stand above the tests. */
public final class TermsTest {
    private static final int OK = MonoShop.OK;
    private static final int INT = 0;
    private static final int CALL = 4;

    public static void main(String[] args) {
        largeTypes();
        largeTypesOfEachSort();
        functions();
        parameters();
        tokensOfABody();
        anyInt();
        operandsOfCalls();
        callsOfFunctionsWithoutBody();
        callsOfTheFunctionItself();
        oneMoreVariable();
        twoMoreVariables();
        numbersOfVariables();
        tenBound();
        anewForEachCall();
        finiteTypes();
        numbersInTypes();
        leftOverVariables();
        callsNotMadeYet();
        wrappingAdd();
        emptyLists();
        workedOutOnce();
        keptVariables();
        stepsAfterOperands();
        operandsInOrder();
        Check.end();
    }

    /** A type is LARGE if it has more than 14 codes. */
    private static void largeTypes() {
        Shop x = new Shop();
        Check.typed(x, 0, 0, "cons " + Check.pairs(7, "1") + " nil", "3 2 0 2 0 2 0 2 0 2 0 2 0 0");
        Check.due("code 13", x.type(0, 13), 0);
        Check.due("code 14", x.type(0, 14), -1);
        Check.due("make with 14 codes", x.make(0), OK);
        Check.due("instance with 14 codes", Check.instanceOf(x, 0), "0: 3 2 0 2 0 2 0 2 0 2 0 2 0 0");
        Check.refused(x, 0, 0, Check.pairs(8, "1"), MonoShop.LARGE, -1);
        Check.due("make with 15 codes", x.make(0), MonoShop.BAD);
        Check.refused(x, 1, 0, "c0", MonoShop.UNBOUND, 0);
        Check.typed(x, 0, 0, Check.pairs(7, "1"), "2 0 2 0 2 0 2 0 2 0 2 0 0");
    }

    /** The edge is the same for PAIR, LIST and ARROW, and for tokens and variables below the first token. */
    private static void largeTypesOfEachSort() {
        String thirteen = Check.pairs(7, "true");
        String twelve = "cons " + Check.pairs(6, "true") + " nil";
        String[] fourteen = {"pair 1 " + twelve, "pair " + twelve + " 1", "cons " + thirteen + " nil", "lam " + twelve};
        String[] fifteen = {"pair 1 " + thirteen, "pair " + thirteen + " 1", "cons cons " + thirteen + " nil nil",
            "lam " + thirteen};
        for (int i = 0; i < fourteen.length; i++) {
            Shop x = new Shop();
            Check.defined(x, 0, 0, fourteen[i]);
            Check.due("code 13 of " + fourteen[i], x.type(0, 13) != -1, true);
            Check.due("code 14 of " + fourteen[i], x.type(0, 14), -1);
            Check.refused(x, 0, 0, fifteen[i], MonoShop.LARGE, -1);
            Check.typed(x, 0, 0, "let " + fourteen[i] + " 1", "0");
            Check.refused(x, 0, 0, "let " + fifteen[i] + " 1", MonoShop.LARGE, -1);
            Check.typed(x, 0, 0, "case cons " + twelve + " nil 1 2", "0");
            Check.refused(x, 0, 0, "case cons " + fourteen[i] + " nil 1 2", MonoShop.LARGE, -1);
        }
    }

    /** FUNCTIONS 0..4. */
    private static void functions() {
        for (int f = 0; f < 5; f++) {
            Shop x = new Shop();
            int other = (f + 1) % 5;
            Check.typed(x, f, 0, "8", "0");
            Check.typed(x, other, 0, "c" + f, "0");
            Check.due("make " + other, x.make(other), OK);
            Check.runs(x, "function " + other, OK, 1, "8");
        }
        int[] none = {-1, 5, Integer.MIN_VALUE, Integer.MAX_VALUE};
        for (int f : none) {
            Shop x = new Shop();
            Check.due("CALL " + f, x.token(CALL, f), false);
            Check.draft(x, "8");
            Check.due("define " + f, x.define(f, 0), MonoShop.BAD);
            Check.due("type of " + f, x.type(f, 0), -1);
            Check.due("make " + f, x.make(f), MonoShop.BAD);
            Check.due("run", x.run(), MonoShop.BAD);
        }
    }

    /** FUNCTIONS have 0..2 parameters. */
    private static void parameters() {
        Shop x = new Shop();
        Check.typed(x, 0, 0, "nil", "3 10");
        Check.typed(x, 1, 1, "nil", "10 3 11");
        Check.typed(x, 2, 2, "nil", "10 11 3 12");
        Check.draft(x, "true");
        int[] none = {-1, 3, Integer.MIN_VALUE, Integer.MAX_VALUE};
        for (int parameters : none) {
            Check.due("define with " + parameters, x.define(2, parameters), MonoShop.BAD);
            Check.due("type of 2", Check.typeOf(x, 2), "10 11 3 12");
        }
        Check.due("define with 2", x.define(2, 2), OK);
        Check.due("type of 2", Check.typeOf(x, 2), "10 11 1");
    }

    /** A BODY is an expression E of at most 24 tokens. */
    private static void tokensOfABody() {
        Shop x = new Shop();
        String full = "add 1 ".repeat(11) + "c0";
        Check.defined(x, 0, 0, "5");
        Check.ran(x, full, OK, 1, "16");
        Check.ran(x, "first pair " + "add 1 ".repeat(9) + "c0 nil", OK, 1, "14");
        String whole = "second pair true " + "add 1 ".repeat(10) + "c0";
        Check.due("tokens", Check.tokens(whole).size(), 24);
        Check.ran(x, whole, OK, 1, "15");
        Check.draft(x, whole);
        Check.due("token 25", x.token(INT, 1), false);
        Check.due("define", x.define(4, 0), OK);
        Check.due("make", x.make(4), OK);
        Check.runs(x, "24 tokens", OK, 1, "15");
        Check.ran(x, "3", OK, 0, "3");
    }

    /** INT n (any int). */
    private static void anyInt() {
        int[] edges = {Integer.MIN_VALUE, Integer.MIN_VALUE + 1, -1, 0, 1, 9, 10, Integer.MAX_VALUE - 1, Integer.MAX_VALUE};
        Shop x = new Shop();
        for (int n : edges) {
            Check.ran(x, "" + n, OK, 0, "" + n);
        }
    }

    /** CALL g then as many E as g has parameters. */
    private static void operandsOfCalls() {
        for (int parameters = 0; parameters <= 2; parameters++) {
            Shop x = new Shop();
            Check.defined(x, 0, parameters, "true");
            String right = "c0" + " 1".repeat(parameters);
            Check.typed(x, 1, 0, right, "1");
            Check.refused(x, 1, 0, right + " 1", MonoShop.SHAPE, parameters + 1);
            if (parameters > 0) {
                Check.refused(x, 1, 0, "c0" + " 1".repeat(parameters - 1), MonoShop.SHAPE, parameters);
            }
            Check.typed(x, 1, 0, "pair " + right + " 7", "2 1 0");
        }
    }

    /** A CALL has no E if the function has no body, and isn't the function itself. */
    private static void callsOfFunctionsWithoutBody() {
        Shop x = new Shop();
        Check.refused(x, 1, 0, "c0", MonoShop.UNBOUND, 0);
        Check.refused(x, 1, 0, "c0 1", MonoShop.SHAPE, 1);
        Check.defined(x, 0, 2, "true");
        Check.defined(x, 1, 0, "c0 1 2");
        Check.refused(x, 0, 2, "v2", MonoShop.UNBOUND, 0);
        // What was defined with two parameters is called without operands, now that its body is lost.
        Check.refused(x, 1, 0, "c0 1 2", MonoShop.SHAPE, 1);
        Check.refused(x, 1, 0, "pair c0 2", MonoShop.UNBOUND, 1);
        Check.refused(x, 1, 0, "pair c0", MonoShop.SHAPE, 2);
    }

    /** A CALL of the function itself has as many E as are defined now, not as many as it had before. */
    private static void callsOfTheFunctionItself() {
        Shop x = new Shop();
        Check.typed(x, 0, 0, "c0", "10");
        Check.refused(x, 0, 0, "c0 1", MonoShop.SHAPE, 1);
        Check.typed(x, 0, 2, "c0 v1 v0", "10 10 11");
        Check.typed(x, 0, 1, "c0 v0", "10 11");
        Check.refused(x, 0, 1, "c0 v0 v0", MonoShop.SHAPE, 2);
        Check.refused(x, 0, 1, "c0", MonoShop.SHAPE, 1);
        Check.refused(x, 0, 2, "c0 v0", MonoShop.SHAPE, 2);
        Check.typed(x, 0, 2, "c0 v0 v0", "10 10 11");
    }

    /** F is an E with one more variable bound in LET and LAM. */
    private static void oneMoreVariable() {
        Shop x = new Shop();
        Check.typed(x, 0, 0, "let 1 v0", "0");
        Check.refused(x, 0, 0, "let 1 v1", MonoShop.UNBOUND, 2);
        Check.refused(x, 0, 0, "let v0 1", MonoShop.UNBOUND, 1);
        Check.typed(x, 0, 0, "lam v0", "4 10 10");
        Check.refused(x, 0, 0, "lam v1", MonoShop.UNBOUND, 1);
        Check.refused(x, 0, 0, "pair lam v0 v0", MonoShop.UNBOUND, 3);
        Check.refused(x, 0, 0, "pair let 1 v0 v0", MonoShop.UNBOUND, 4);
        Check.typed(x, 0, 2, "let v1 lam pair v2 v3", "10 11 4 12 2 11 12");
        Check.refused(x, 0, 2, "let v1 lam pair v2 v4", MonoShop.UNBOUND, 5);
        Check.refused(x, 0, 2, "let v2 lam pair v2 v3", MonoShop.UNBOUND, 1);
    }

    /** Two more (head and tail) in CASE. */
    private static void twoMoreVariables() {
        Shop x = new Shop();
        Check.typed(x, 0, 1, "case v0 true v1", "3 1 1");
        Check.typed(x, 0, 1, "case v0 v0 v2", "3 10 3 10");
        Check.refused(x, 0, 1, "case v0 v0 v3", MonoShop.UNBOUND, 3);
        Check.refused(x, 0, 1, "case v0 v1 v2", MonoShop.UNBOUND, 2);
        Check.refused(x, 0, 1, "case v1 v0 v0", MonoShop.UNBOUND, 1);
        Check.refused(x, 0, 1, "pair case v0 v0 v2 v1", MonoShop.UNBOUND, 5);
    }

    /** Numbered from 0 on: the parameters, then what binds them on the way to a place, from the outermost on. */
    private static void numbersOfVariables() {
        Shop x = new Shop();
        Check.defined(x, 0, 2, "let 12 case cons 13 nil c0 v0 v1 app lam pair pair v0 v1 pair v2 pair v3 pair v4 v5 15");
        Check.ran(x, "c0 10 11", OK, 2, "10 11 12 13 0 15");
        // What is bound beside the way to a place has no number there.
        Check.ran(x, "let 1 pair let 2 pair v0 v1 let 3 pair v0 v1", OK, 0, "1 2 1 3");
        Check.ran(x, "pair let let 1 add v0 1 add v0 2 let 5 v0", OK, 0, "4 5");
    }

    /** At most 10 are bound at a place. */
    private static void tenBound() {
        for (int parameters = 0; parameters <= 2; parameters++) {
            Shop x = new Shop();
            int more = 10 - parameters;
            Check.defined(x, 0, parameters, "let 1 ".repeat(more) + "v9");
            Check.refused(x, 0, parameters, "let 1 ".repeat(more + 1) + "v9", MonoShop.UNBOUND, 2 * more);
            Check.refused(x, 0, parameters, "let 1 ".repeat(more - 1) + "v9", MonoShop.UNBOUND, 2 * more - 2);
            Check.defined(x, 0, parameters, "let 1 ".repeat(more - 1) + "app lam v9 1");
            Check.refused(x, 0, parameters, "let 1 ".repeat(more) + "app lam v9 1", MonoShop.UNBOUND, 2 * more + 1);
            Check.defined(x, 0, parameters, "let 1 ".repeat(more - 2) + "case nil nil v9");
            Check.refused(x, 0, parameters, "let 1 ".repeat(more - 1) + "case nil nil v9", MonoShop.UNBOUND, 2 * more - 2);
        }
        Shop x = new Shop();
        String ten = "";
        for (int n = 0; n < 10; n++) {
            ten += "let " + 10 * n + " ";
        }
        Check.ran(x, ten + "pair v0 v9", OK, 0, "0 90");
        Check.ran(x, ten + "pair v1 v8", OK, 0, "10 80");
    }

    /** CALL of another function: VARIABLES stand for any types, anew for each CALL; of itself: its parameters' types. */
    private static void anewForEachCall() {
        Shop x = new Shop();
        Check.defined(x, 0, 1, "v0");
        Check.typed(x, 1, 0, "pair c0 1 c0 true", "2 0 1");
        Check.typed(x, 1, 0, "c0 c0 nil", "3 10");
        Check.refused(x, 1, 1, "let c1 1 let c1 true v0", MonoShop.TYPE, 5);
        Check.typed(x, 1, 1, "let c1 1 let c1 2 v0", "0 0");
        Check.refused(x, 1, 1, "if true v0 add c1 true 1", MonoShop.TYPE, 5);
        // What a LET binds stands for one type.
        Check.refused(x, 1, 0, "let lam v0 pair app v0 1 app v0 true", MonoShop.TYPE, 9);
        Check.typed(x, 1, 0, "let lam v0 pair app v0 1 app v0 2", "2 0 0");
    }

    /** Types are finite. */
    private static void finiteTypes() {
        String[] finite = {"app v0 v1", "cons v0 v1", "if true v0 pair v1 1", "pair cons v0 v1 cons v0 v1",
            "let v0 if true v1 first v2", "if true v0 lam app v1 v2", "app v0 lam v1", "if true v0 c0 v0 v1"};
        String[] endless = {"app v0 v0", "cons v0 v0", "if true v0 pair v0 1", "pair cons v0 v1 cons v1 v0",
            "let v0 if true v2 first v0", "if true v0 lam app v2 v0", "app v0 lam v0", "if true v0 cons c0 v0 v1 nil"};
        int[] places = {2, 2, 4, 6, 6, 6, 3, 4};
        for (int i = 0; i < finite.length; i++) {
            Shop x = new Shop();
            Check.defined(x, 0, 2, finite[i]);
            Check.due("type of " + finite[i], x.type(0, 0) != -1, true);
            Check.refused(x, 0, 2, endless[i], MonoShop.TYPE, places[i]);
        }
    }

    /** VARIABLES numbered as they appear: the first is 10. */
    private static void numbersInTypes() {
        Shop x = new Shop();
        Check.typed(x, 0, 0, "c0", "10");
        Check.typed(x, 0, 2, "v1", "10 11 11");
        Check.typed(x, 0, 2, "lam pair v2 pair v1 v0", "10 11 4 12 2 12 2 11 10");
        Check.typed(x, 1, 1, "let second v0 let second v1 let second v2 let second v3 let second v4 second v5",
            "2 10 2 11 2 12 2 13 2 14 2 15 16 16");
        Check.typed(x, 2, 2, "pair c1 v0 c1 v1",
            "2 10 2 11 2 12 2 13 2 14 2 15 16 2 17 2 18 2 19 2 20 2 21 2 22 23 2 16 23");
        Check.typed(x, 3, 2, "c2 v1 v0", "2 10 2 11 2 12 2 13 2 14 2 15 16 2 17 2 18 2 19 2 20 2 21 2 22 23 2 23 16");
    }

    /** VARIABLES that are left over being INT. */
    private static void leftOverVariables() {
        Shop x = new Shop();
        Check.makes(x, "nil", "4: 3 0");
        Check.makes(x, "lam lam v0", "4: 4 0 4 0 0");
        Check.makes(x, "c4", "4: 0");
        Check.defined(x, 0, 1, "1");
        Check.makes(x, "add c0 nil c0 lam v0", "4: 0, 0: 3 0 0, 0: 4 0 0 0");
        Check.makes(x, "add c0 nil c0 cons 1 nil", "4: 0, 0: 3 0 0");
        Check.makes(x, "add c0 nil c0 cons true nil", "4: 0, 0: 3 0 0, 0: 3 1 0");
    }

    /** Those of its CALLs that were not made yet. */
    private static void callsNotMadeYet() {
        Shop x = new Shop();
        Check.defined(x, 0, 1, "v0");
        Check.defined(x, 1, 1, "v0");
        Check.makes(x, "c0 c0 1", "4: 0, 0: 0 0");
        Check.makes(x, "c0 c1 1", "4: 0, 0: 0 0, 1: 0 0");
        Check.makes(x, "first pair c0 1 c0 true", "4: 0, 0: 0 0, 0: 1 1");
        Check.defined(x, 2, 1, "c0 c2 v0");
        Check.makes(x, "c2 1", "4: 0, 2: 0 0, 0: 0 0");
        Check.makes(x, "add c0 1 c2 1", "4: 0, 0: 0 0, 2: 0 0");
    }

    /** ADD wraps. */
    private static void wrappingAdd() {
        Shop x = new Shop();
        Check.ran(x, "add 2147483646 1", OK, 0, "2147483647");
        Check.ran(x, "add 2147483647 1", OK, 0, "-2147483648");
        Check.ran(x, "add -2147483647 -1", OK, 0, "-2147483648");
        Check.ran(x, "add -2147483648 -1", OK, 0, "2147483647");
        Check.ran(x, "add -2147483648 -2147483648", OK, 0, "0");
        Check.ran(x, "add 2147483647 2147483647", OK, 0, "-2");
        Check.ran(x, "less 0 add 2147483647 1", OK, 0, "0");
        Check.ran(x, "less 0 add 2147483646 1", OK, 0, "1");
    }

    /** CASE goes to its second operand for an empty list, else to the third one. */
    private static void emptyLists() {
        Shop x = new Shop();
        Check.defined(x, 0, 0, "c0");
        Check.ran(x, "case nil 1 c0", OK, 0, "1");
        Check.ran(x, "case cons 5 nil c0 pair v0 v1", OK, 0, "5 0");
        Check.ran(x, "case cons 5 cons 6 nil c0 pair v0 v1", OK, 0, "5 1 6");
        Check.ran(x, "case cons nil nil c0 v0", OK, 0, "0");
        Check.ran(x, "case cons 5 nil c0 case v1 7 c0", OK, 0, "7");
    }

    /** LET works its first operand out once. */
    private static void workedOutOnce() {
        Shop x = new Shop();
        Check.defined(x, 0, 0, "3");
        Check.ran(x, "let c0 1", OK, 1, "1");
        Check.ran(x, "let c0 add v0 add v0 v0", OK, 1, "9");
        Check.ran(x, "add c0 add c0 c0", OK, 3, "9");
    }

    /** LAM is a function that keeps the variables that are bound: from none to nine, its own being the tenth. */
    private static void keptVariables() {
        Shop x = new Shop();
        Check.ran(x, "app lam v0 7", OK, 1, "7");
        Check.ran(x, "app let 5 lam pair v0 v1 7", OK, 1, "5 7");
        String nine = "let 0 let 1 let 2 let 3 let 4 let 5 let 6 let 7 let 8 ";
        Check.ran(x, "app " + nine + "lam pair v0 v8 7", OK, 1, "0 8");
        Check.ran(x, "app " + nine + "lam pair v7 v9 9", OK, 1, "7 9");
        // Kept as they were: what has the same number at another place is another variable.
        Check.ran(x, "app first pair let 5 lam add v0 v1 let 6 v0 10", OK, 1, "15");
        Check.ran(x, "let let 5 lam v0 let 6 app v0 v1", OK, 1, "5");
        Check.refused(x, 0, 0, nine + "let 9 lam 1", MonoShop.UNBOUND, 20);
    }

    /** A STEP is taken by each CALL and APP, when its operands are worked out. */
    private static void stepsAfterOperands() {
        Shop x = new Shop();
        Check.defined(x, 0, 1, "v0");
        Check.defined(x, 1, 0, "c1");
        Check.ran(x, "lam c0 1", OK, 0, "0");
        Check.ran(x, "c0 1", OK, 1, "1");
        Check.ran(x, "app lam c0 v0 1", OK, 2, "1");
        // Were the steps of function 0 taken before those of its operand, there would be 22 and 23 of them.
        Check.ran(x, "c0 c1", MonoShop.DEPTH, 21, "");
        Check.ran(x, "app lam v0 c1", MonoShop.DEPTH, 21, "");
        Check.ran(x, "app c1 1", MonoShop.DEPTH, 21, "");
        Check.ran(x, "app c0 lam v0 c1", MonoShop.DEPTH, 22, "");
    }

    /** RUNNING, operands from the first to the last. */
    private static void operandsInOrder() {
        String[] two = {"pair %s %s", "add %s %s", "less %s %s", "cons %s cons %s nil", "c0 %s %s", "app lam v0 add %s %s",
            "let %s %s", "case cons %s nil 1 %s", "if less %s 9 %s 3"};
        for (String both : two) {
            Shop x = new Shop();
            Check.defined(x, 0, 2, "v0");
            Check.defined(x, 1, 0, "c1");
            Check.defined(x, 2, 0, "3");
            Check.made(x, String.format(both, "c2", "c1"));
            Check.due("run of " + both, x.run(), MonoShop.DEPTH);
            Check.due("steps of " + both + ", the endless one last", x.steps(), 22);
            Check.made(x, String.format(both, "c1", "c2"));
            Check.due("run of " + both, x.run(), MonoShop.DEPTH);
            Check.due("steps of " + both + ", the endless one first", x.steps(), 21);
        }
    }
}
