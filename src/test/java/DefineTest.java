/** Promise 3, with what promise 12 adds to it. */
public final class DefineTest {
    private static final String FOURTEEN = "cons pair pair 1 2 pair pair 3 4 pair 5 pair 6 7 nil";

    public static void main(String[] args) {
        bad();
        shape();
        shapeOfCalls();
        unbound();
        unboundBinders();
        typeOfEachRule();
        infiniteTypes();
        large();
        hugeTypes();
        orderOfAnswers();
        bodiesAreLost();
        draftIsEmptyThen();
        Check.end();
    }

    private static void bad() {
        MonoShop x = new MonoShop();
        Check.refused(x, 0, 0, "add 1", MonoShop.SHAPE, 2);
        Check.defined(x, 1, 0, "8");
        Check.draft(x, "5");
        int[][] outside = {{-1, 0}, {5, 0}, {0, -1}, {0, 3}, {Integer.MIN_VALUE, 0}, {1, Integer.MAX_VALUE}};
        for (int[] pair : outside) {
            Check.due("define " + pair[0] + " " + pair[1], x.define(pair[0], pair[1]), MonoShop.BAD);
            Check.due("type of 1", Check.typeOf(x, 1), "0");
        }
        Check.due("the draft stays", x.define(4, 0), MonoShop.OK);
        Check.due("its type", Check.typeOf(x, 4), "0");
    }

    private static void shape() {
        MonoShop x = new MonoShop();
        Check.refused(x, 0, 0, "", MonoShop.SHAPE, 0);
        Check.refused(x, 0, 0, "if true 1", MonoShop.SHAPE, 3);
        Check.refused(x, 0, 0, "lam", MonoShop.SHAPE, 1);
        Check.refused(x, 0, 0, "case nil 1", MonoShop.SHAPE, 3);
        Check.refused(x, 0, 0, "1 2 3", MonoShop.SHAPE, 1);
        Check.refused(x, 0, 0, "pair 1 2 add", MonoShop.SHAPE, 3);
        Check.refused(x, 0, 0, "first first first second", MonoShop.SHAPE, 4);
        Check.refused(x, 0, 0, "add ".repeat(24), MonoShop.SHAPE, 24);
        Check.defined(x, 0, 0, "add 1 ".repeat(11) + "2");
    }

    private static void shapeOfCalls() {
        MonoShop x = new MonoShop();
        Check.refused(x, 0, 2, "c0 1", MonoShop.SHAPE, 2);
        Check.refused(x, 0, 1, "c0 1 2", MonoShop.SHAPE, 2);
        Check.defined(x, 0, 2, "c0 1 2");
        Check.refused(x, 1, 1, "c0 1", MonoShop.SHAPE, 2);
        Check.defined(x, 1, 1, "c0 v0 v0");
        // Function 1 loses its body with function 0, and has no operands then.
        Check.refused(x, 0, 1, "c1 v0", MonoShop.SHAPE, 1);
        Check.refused(x, 0, 1, "c1", MonoShop.UNBOUND, 0);
    }

    private static void unbound() {
        MonoShop x = new MonoShop();
        Check.refused(x, 0, 0, "v0", MonoShop.UNBOUND, 0);
        Check.refused(x, 0, 1, "pair v0 v1", MonoShop.UNBOUND, 2);
        Check.defined(x, 0, 2, "pair v0 v1");
        Check.refused(x, 1, 0, "let v0 1", MonoShop.UNBOUND, 1);
        Check.defined(x, 1, 0, "let 1 v0");
        Check.refused(x, 1, 0, "case nil v0 1", MonoShop.UNBOUND, 2);
        Check.refused(x, 1, 0, "case v0 1 1", MonoShop.UNBOUND, 1);
        Check.refused(x, 1, 0, "case nil 1 v2", MonoShop.UNBOUND, 3);
        Check.defined(x, 1, 0, "case nil nil v1");
        Check.refused(x, 1, 0, "pair lam v0 v0", MonoShop.UNBOUND, 3);
        Check.refused(x, 1, 0, "pair let 1 lam v1 v1", MonoShop.UNBOUND, 5);
        Check.refused(x, 1, 0, "add c2 v9", MonoShop.UNBOUND, 1);
        Check.refused(x, 1, 0, "add v9 c2", MonoShop.UNBOUND, 1);
        Check.defined(x, 1, 0, "c1");
    }

    private static void unboundBinders() {
        MonoShop x = new MonoShop();
        Check.refused(x, 0, 0, "app " + "lam ".repeat(10) + "v9 1", MonoShop.LARGE, -1);
        Check.refused(x, 0, 0, "lam ".repeat(11) + "1", MonoShop.UNBOUND, 10);
        Check.refused(x, 0, 2, "lam ".repeat(9) + "1", MonoShop.UNBOUND, 8);
        Check.defined(x, 0, 0, "let 1 ".repeat(10) + "v9");
        Check.refused(x, 0, 0, "let 1 ".repeat(11) + "2", MonoShop.UNBOUND, 20);
        Check.defined(x, 0, 1, "let 1 ".repeat(9) + "v9");
        Check.refused(x, 0, 1, "let 1 ".repeat(10) + "v9", MonoShop.UNBOUND, 18);
        Check.defined(x, 0, 0, "case nil 1 ".repeat(5) + "2");
        Check.refused(x, 0, 0, "case nil 1 ".repeat(6) + "2", MonoShop.UNBOUND, 15);
        Check.refused(x, 0, 1, "case nil 1 ".repeat(5) + "2", MonoShop.UNBOUND, 12);
        // The first and second operands of a CASE have no more variables bound than the CASE itself.
        Check.defined(x, 0, 0, "let 1 ".repeat(8) + "case nil case nil v0 v8 v8");
        Check.refused(x, 0, 0, "let 1 ".repeat(9) + "case nil v0 v0", MonoShop.UNBOUND, 18);
    }

    private static void typeOfEachRule() {
        MonoShop x = new MonoShop();
        Check.refused(x, 0, 0, "add true 1", MonoShop.TYPE, 1);
        Check.refused(x, 0, 0, "add 1 false", MonoShop.TYPE, 2);
        Check.refused(x, 0, 0, "add less 1 2 3", MonoShop.TYPE, 1);
        Check.refused(x, 0, 0, "less 1 nil", MonoShop.TYPE, 2);
        Check.refused(x, 0, 0, "less true 1", MonoShop.TYPE, 1);
        Check.refused(x, 0, 0, "if 1 2 3", MonoShop.TYPE, 1);
        Check.refused(x, 0, 0, "if true 2 false", MonoShop.TYPE, 3);
        Check.refused(x, 0, 0, "add if true 2 3 if true true true", MonoShop.TYPE, 7);
        Check.refused(x, 0, 0, "first 1", MonoShop.TYPE, 1);
        Check.refused(x, 0, 0, "second nil", MonoShop.TYPE, 1);
        Check.refused(x, 0, 0, "add 1 first pair true 1", MonoShop.TYPE, 4);
        Check.refused(x, 0, 0, "add 1 second pair 1 true", MonoShop.TYPE, 5);
        Check.refused(x, 0, 0, "cons 1 2", MonoShop.TYPE, 2);
        Check.refused(x, 0, 0, "cons 1 cons true nil", MonoShop.TYPE, 3);
        Check.refused(x, 0, 0, "case 1 2 3", MonoShop.TYPE, 1);
        Check.refused(x, 0, 0, "case cons 1 nil true v0", MonoShop.TYPE, 5);
        Check.refused(x, 0, 0, "case cons 1 nil 2 v1", MonoShop.TYPE, 5);
        Check.refused(x, 0, 0, "let true add v0 1", MonoShop.TYPE, 3);
        Check.refused(x, 0, 0, "let lam v0 pair app v0 1 app v0 true", MonoShop.TYPE, 9);
        Check.refused(x, 0, 0, "app 1 2", MonoShop.TYPE, 1);
        Check.refused(x, 0, 0, "app lam add v0 1 true", MonoShop.TYPE, 5);
        Check.refused(x, 0, 0, "add 1 app lam true 1", MonoShop.TYPE, 4);
        Check.refused(x, 0, 0, "add 1 lam v0", MonoShop.TYPE, 2);
        Check.refused(x, 0, 0, "add 1 pair 2 3", MonoShop.TYPE, 2);
        typeOfCalls(x);
    }

    private static void typeOfCalls(MonoShop x) {
        Check.defined(x, 1, 2, "pair v0 add v1 1");
        Check.refused(x, 0, 0, "c1 1 true", MonoShop.TYPE, 2);
        Check.refused(x, 0, 0, "add 1 c1 1 1", MonoShop.TYPE, 2);
        Check.defined(x, 0, 0, "pair c1 1 2 c1 true 2");
        Check.refused(x, 0, 1, "if true v0 add c0 true 1", MonoShop.TYPE, 5);
        Check.refused(x, 0, 1, "pair c0 1 c0 true", MonoShop.TYPE, 1);
        Check.refused(x, 0, 1, "let c0 1 c0 true", MonoShop.TYPE, 4);
        Check.refused(x, 0, 1, "cons c0 v0 nil", MonoShop.TYPE, 1);
    }

    private static void infiniteTypes() {
        MonoShop x = new MonoShop();
        Check.refused(x, 0, 0, "lam app v0 v0", MonoShop.TYPE, 3);
        Check.refused(x, 0, 1, "app v0 v0", MonoShop.TYPE, 2);
        Check.refused(x, 0, 1, "cons v0 v0", MonoShop.TYPE, 2);
        Check.refused(x, 0, 1, "pair 1 c0 c0 v0", MonoShop.TYPE, 2);
        Check.refused(x, 0, 1, "if true v0 pair v0 1", MonoShop.TYPE, 4);
        Check.refused(x, 0, 2, "pair cons v0 v1 cons v1 v0", MonoShop.TYPE, 6);
        Check.refused(x, 0, 1, "let v0 if true v1 first v0", MonoShop.TYPE, 6);
        Check.refused(x, 0, 1, "if true v0 if true first v0 second v0", MonoShop.TYPE, 6);
    }

    private static void large() {
        MonoShop x = new MonoShop();
        Check.defined(x, 0, 0, FOURTEEN);
        Check.due("type", Check.typeOf(x, 0), "3 2 2 0 0 2 2 0 0 2 0 2 0 0");
        Check.refused(x, 0, 0, "cons " + FOURTEEN + " nil", MonoShop.LARGE, -1);
        Check.refused(x, 0, 0, "first pair 1 " + FOURTEEN, MonoShop.LARGE, -1);
        Check.refused(x, 0, 0, "let " + FOURTEEN + " second pair v0 1", MonoShop.LARGE, -1);
        Check.defined(x, 0, 0, "let " + FOURTEEN + " 1");
        Check.refused(x, 0, 0, "let lam " + FOURTEEN + " 1", MonoShop.LARGE, -1);
        Check.defined(x, 0, 0, "case nil 1 let cons v0 " + FOURTEEN + " 2");
        Check.refused(x, 0, 0, "case nil 1 let cons v1 cons " + FOURTEEN + " nil 2", MonoShop.LARGE, -1);
    }

    private static void hugeTypes() {
        MonoShop x = new MonoShop();
        Check.defined(x, 0, 1, "pair pair v0 v0 pair pair v0 v0 pair v0 pair v0 v0");
        Check.refused(x, 1, 1, "c0 ".repeat(23) + "v0", MonoShop.LARGE, -1);
        Check.refused(x, 1, 2, "if true " + "c0 ".repeat(10) + "v0 " + "c0 ".repeat(10) + "v1", MonoShop.LARGE, -1);
        Check.refused(x, 1, 2, "if true " + "c0 ".repeat(9) + "v0 " + "c0 ".repeat(10) + "v0", MonoShop.TYPE, 22);
    }

    private static void orderOfAnswers() {
        MonoShop x = new MonoShop();
        Check.refused(x, 0, 0, "add v0", MonoShop.SHAPE, 2);
        Check.refused(x, 0, 0, "add true v0", MonoShop.UNBOUND, 2);
        Check.refused(x, 0, 0, "pair add true c2 v0", MonoShop.UNBOUND, 3);
        Check.refused(x, 0, 0, "add cons " + FOURTEEN + " nil true", MonoShop.TYPE, 1);
        Check.refused(x, 0, 0, "if true cons " + FOURTEEN + " nil true", MonoShop.TYPE, 19);
    }

    private static void bodiesAreLost() {
        MonoShop x = new MonoShop();
        Check.defined(x, 3, 1, "v0");
        Check.defined(x, 0, 1, "c3 v0");
        Check.defined(x, 2, 1, "c0 v0");
        Check.defined(x, 1, 1, "if true c1 v0 v0");
        Check.defined(x, 4, 0, "c1 2");
        Check.refused(x, 3, 1, "", MonoShop.SHAPE, 0);
        for (int f = 0; f < 5; f++) {
            Check.due("type of " + f, Check.typeOf(x, f), f == 1 ? "10 10" : f == 4 ? "0" : "");
        }
        Check.defined(x, 3, 1, "v0");
        Check.due("a body does not come back", Check.typeOf(x, 0), "");
        Check.defined(x, 1, 1, "v0");
        Check.due("type of 4 after a new 1", Check.typeOf(x, 4), "");
        Check.refused(x, 4, 0, "c4 1", MonoShop.SHAPE, 1);
        Check.refused(x, 1, 1, "true false", MonoShop.SHAPE, 1);
        Check.refused(x, 4, 0, "c1", MonoShop.UNBOUND, 0);
    }

    private static void draftIsEmptyThen() {
        String[] bodies = {"1", "add", "v0", "add true 1", "cons " + FOURTEEN + " nil"};
        int[] answers = {MonoShop.OK, MonoShop.SHAPE, MonoShop.UNBOUND, MonoShop.TYPE, MonoShop.LARGE};
        for (int i = 0; i < bodies.length; i++) {
            MonoShop x = new MonoShop();
            Check.due("define as " + bodies[i], Check.define(x, 0, 0, bodies[i]), answers[i]);
            Check.refused(x, 1, 0, "", MonoShop.SHAPE, 0);
        }
    }
}
