/** Promise 5. The sentences stand above the tests. */
public final class TypeTest {
    public static void main(String[] args) {
        generalTypes();
        binders();
        calls();
        edgesOfTheCodes();
        shortestAndLongest();
        withoutBody();
        otherCallsLeaveIt();
        Check.end();
    }

    private static void typed(int parameters, String body, String type) {
        Shop x = new Shop();
        Check.typed(x, 2, parameters, body, type);
    }

    /** Code k of the TYPE of a function. */
    private static void generalTypes() {
        typed(0, "1", "0");
        typed(0, "true", "1");
        typed(0, "less 1 2", "1");
        typed(0, "nil", "3 10");
        typed(0, "cons 1 nil", "3 0");
        typed(0, "c2", "10");
        typed(2, "c2 v1 v0", "10 10 11");
        typed(2, "pair v1 v0", "10 11 2 11 10");
        typed(2, "v1", "10 11 11");
        typed(2, "if true v0 v1", "10 10 10");
        typed(1, "first v0", "2 10 11 10");
        typed(1, "second v0", "2 10 11 11");
        typed(2, "app v0 v1", "4 10 11 10 11");
        typed(2, "cons v0 v1", "10 3 10 3 10");
        typed(1, "lam v0", "10 4 11 10");
        typed(0, "lam lam v0", "4 10 4 11 10");
        typed(0, "lam lam pair v1 v0", "4 10 4 11 2 11 10");
        typed(1, "add v0 1", "0 0");
        typed(1, "if v0 1 2", "1 0");
    }

    private static void binders() {
        typed(2, "case v0 v1 v2", "3 10 10 10");
        typed(2, "case v0 v1 v3", "3 10 3 10 3 10");
        typed(2, "let pair v0 v1 let second v2 pair v3 v2", "10 11 2 11 2 10 11");
        typed(2, "let v0 let lam pair v3 v2 app v3 v1", "10 11 2 11 10");
        typed(1, "case v0 0 add 1 c2 v2", "3 10 0");
        typed(2, "case v1 nil cons app v0 v2 c2 v0 v3", "4 10 11 3 10 3 11");
    }

    private static void calls() {
        Shop x = new Shop();
        Check.defined(x, 0, 1, "pair v0 v0");
        Check.typed(x, 1, 2, "pair c0 v1 c0 v0", "10 11 2 2 11 11 2 10 10");
        Check.typed(x, 2, 0, "lam first c1 c0 v0 1", "4 10 2 0 0");
        Check.due("define", Check.define(x, 3, 2, "c0 c1 v0 v1"), MonoShop.LARGE);
    }

    /** -1 if there is none: before the first code and behind the last. */
    private static void edgesOfTheCodes() {
        Shop x = new Shop();
        Check.defined(x, 0, 0, "true");
        Check.defined(x, 1, 2, "cons pair v0 v1 nil");
        Check.due("code 0", x.type(0, 0), 1);
        Check.due("code 1", x.type(0, 1), -1);
        Check.due("code 0", x.type(1, 0), 10);
        Check.due("code 5, the last", x.type(1, 5), 11);
        int[] none = {-1, 6, 7, 13, 14, 41, 42, 43, Integer.MIN_VALUE, Integer.MAX_VALUE};
        for (int k : none) {
            Check.due("code " + k, x.type(1, k), -1);
            Check.due("code " + k + " of another", x.type(0, k), -1);
        }
        // A shorter type leaves nothing of the longer one before.
        Check.typed(x, 1, 0, "1", "0");
        Check.due("code 1", x.type(1, 1), -1);
    }

    /** From one code to three types of 14 codes each. */
    private static void shortestAndLongest() {
        Shop x = new Shop();
        String codes = "3 2 1 2 1 2 1 2 1 2 1 2 1 1";
        Check.typed(x, 0, 0, "cons " + Check.pairs(7, "true") + " nil", codes);
        Check.typed(x, 1, 2, "if true c0 if true v0 v1", codes + " " + codes + " " + codes);
        Check.due("code 41, the last", x.type(1, 41), 1);
        Check.due("code 42", x.type(1, 42), -1);
        Check.typed(x, 2, 2, "if true c0 if true v0 c1 v1 v0", codes + " " + codes + " " + codes);
        Check.typed(x, 3, 2, "if true v0 c1 v0 v1",
            codes + " " + codes + " " + codes);
        Check.typed(x, 4, 0, "1", "0");
    }

    /** -1 if there is none: of a function without a body. */
    private static void withoutBody() {
        Shop x = new Shop();
        for (int f = 0; f < 5; f++) {
            Check.due("type of " + f, x.type(f, 0), -1);
        }
        Check.typed(x, 0, 1, "v0", "10 10");
        Check.typed(x, 1, 0, "c0 1", "0");
        Check.refused(x, 0, 1, "v1", MonoShop.UNBOUND, 0);
        Check.due("type of the function itself", x.type(0, 0), -1);
        Check.due("type of what calls it", x.type(1, 0), -1);
        Check.due("type of another", x.type(2, 0), -1);
    }

    private static void otherCallsLeaveIt() {
        Shop x = new Shop();
        Check.typed(x, 0, 1, "v0", "10 10");
        Check.ran(x, "pair c0 1 c0 true", MonoShop.OK, 2, "1 1");
        Check.draft(x, "true");
        Check.due("define", x.define(0, 3), MonoShop.BAD);
        Check.due("type of 0", Check.typeOf(x, 0), "10 10");
        Check.due("type of 4", Check.typeOf(x, 4), "2 0 1");
    }
}
