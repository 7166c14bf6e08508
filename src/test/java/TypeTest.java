/** Promise 5, with what promise 12 adds to it. */
public final class TypeTest {
    public static void main(String[] args) {
        generalTypes();
        bindersAndCalls();
        longestType();
        nothingThere();
        Check.end();
    }

    private static void typed(int parameters, String body, String type) {
        MonoShop x = new MonoShop();
        Check.defined(x, 2, parameters, body);
        Check.due("type of " + body, Check.typeOf(x, 2), type);
    }

    private static void generalTypes() {
        typed(0, "1", "0");
        typed(0, "true", "1");
        typed(0, "less 1 2", "1");
        typed(0, "nil", "3 10");
        typed(0, "cons 1 nil", "3 0");
        typed(0, "c2", "10");
        typed(2, "c2 v1 v0", "10 10 11");
        typed(2, "pair v1 v0", "10 11 2 11 10");
        typed(2, "v1", "10 11 11");
        typed(2, "if true v0 v1", "10 10 10");
        typed(1, "first v0", "2 10 11 10");
        typed(1, "second v0", "2 10 11 11");
        typed(2, "app v0 v1", "4 10 11 10 11");
        typed(2, "cons v0 v1", "10 3 10 3 10");
        typed(1, "lam v0", "10 4 11 10");
        typed(0, "lam lam v0", "4 10 4 11 10");
        typed(0, "lam lam pair v1 v0", "4 10 4 11 2 11 10");
        typed(1, "add v0 1", "0 0");
        typed(1, "if v0 1 2", "1 0");
    }

    private static void bindersAndCalls() {
        typed(2, "case v0 v1 v2", "3 10 10 10");
        typed(2, "case v0 v1 v3", "3 10 3 10 3 10");
        typed(2, "let pair v0 v1 let second v2 pair v3 v2", "10 11 2 11 2 10 11");
        typed(2, "let v0 let lam pair v3 v2 app v3 v1", "10 11 2 11 10");
        typed(1, "case v0 0 add 1 c2 v2", "3 10 0");
        typed(2, "case v1 nil cons app v0 v2 c2 v0 v3", "4 10 11 3 10 3 11");
        MonoShop x = new MonoShop();
        Check.defined(x, 0, 1, "pair v0 v0");
        Check.defined(x, 1, 2, "pair c0 v1 c0 v0");
        Check.due("two calls, each with types of its own", Check.typeOf(x, 1), "10 11 2 2 11 11 2 10 10");
        Check.defined(x, 2, 0, "lam first c1 c0 v0 1");
        Check.due("call of a call", Check.typeOf(x, 2), "4 10 2 0 0");
        Check.due("define", Check.define(x, 3, 2, "c0 c1 v0 v1"), MonoShop.LARGE);
    }

    private static void longestType() {
        MonoShop x = new MonoShop();
        String seven = "pair pair %1$s %1$s pair pair %1$s %1$s pair %1$s pair %1$s %1$s";
        Check.defined(x, 0, 0, "cons " + String.format(seven, "true") + " nil");
        Check.defined(x, 1, 2, "if true c0 if true v0 v1");
        String codes = "3 2 2 1 1 2 2 1 1 2 1 2 1 1";
        Check.due("three types of 14 codes", Check.typeOf(x, 1), codes + " " + codes + " " + codes);
        Check.due("code 42", x.type(1, 42), -1);
        Check.defined(x, 2, 2, "if true c0 if true v0 c1 v1 v0");
        Check.due("a call of it", Check.typeOf(x, 2), codes + " " + codes + " " + codes);
    }

    private static void nothingThere() {
        MonoShop x = new MonoShop();
        Check.defined(x, 0, 1, "v0");
        int[] outside = {-1, 2, 3, 41, 42, 43, Integer.MIN_VALUE, Integer.MAX_VALUE};
        for (int k : outside) {
            Check.due("code " + k, x.type(0, k), -1);
        }
        int[] others = {-1, 1, 4, 5, 6, Integer.MIN_VALUE, Integer.MAX_VALUE};
        for (int f : others) {
            Check.due("function " + f, x.type(f, 0), -1);
        }
        Check.refused(x, 0, 1, "v1", MonoShop.UNBOUND, 0);
        Check.due("type of a function that lost its body", x.type(0, 0), -1);
    }
}
