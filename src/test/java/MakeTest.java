/** Promise 6. The sentences stand above the tests. */
public final class MakeTest {
    public static void main(String[] args) {
        orderOfInstances();
        bodyTypesTellApart();
        leftOverIsInt();
        parametersTellWhatIsCalled();
        bodyTellsWhatIsCalled();
        recursion();
        badWithoutBody();
        badWithParameters();
        largeTypeOfAToken();
        largeTypeOfAVariable();
        largeTypeFurtherDown();
        twelveInstances();
        twelveInstancesInAChain();
        largeMakesNothing();
        Check.end();
    }

    /** Makes function f: the tokens' order within an instance, and all of an instance before the next one. */
    private static void orderOfInstances() {
        Shop x = new Shop();
        Check.defined(x, 0, 1, "v0");
        Check.defined(x, 1, 1, "pair c0 v0 c0 true");
        Check.defined(x, 2, 1, "c1 cons v0 nil");
        Check.makes(x, "pair c2 1 c0 nil",
            "4: 2 2 3 0 1 3 0, 2: 0 2 3 0 1, 0: 3 0 3 0, 1: 3 0 2 3 0 1, 0: 1 1");
        Check.makes(x, "c0 c0 c0 1", "4: 0, 0: 0 0");
        Check.makes(x, "c0 pair c0 1 c0 true", "4: 2 0 1, 0: 2 0 1 2 0 1, 0: 0 0, 0: 1 1");
        Check.makes(x, "if false c2 1 c1 nil", "4: 2 3 0 1, 2: 0 2 3 0 1, 1: 3 0 2 3 0 1, 0: 3 0 3 0, 0: 1 1");
        Check.makes(x, "lam c0 v0", "4: 4 0 0, 0: 0 0");
        Check.defined(x, 3, 0, "c0 5");
        Check.due("make 3", x.make(3), MonoShop.OK);
        Check.due("instances of another function", Check.instancesOf(x), "3: 0, 0: 0 0");
    }

    private static void bodyTypesTellApart() {
        Shop x = new Shop();
        Check.defined(x, 0, 1, "nil");
        Check.makes(x, "pair cons 1 c0 2 cons true c0 2", "4: 2 3 0 3 1, 0: 0 3 0, 0: 0 3 1");
        Check.defined(x, 1, 0, "nil");
        Check.makes(x, "pair cons 1 c1 cons true c1", "4: 2 3 0 3 1, 1: 3 0, 1: 3 1");
        Check.defined(x, 2, 2, "v0");
        Check.makes(x, "pair c2 1 true c2 true 1", "4: 2 0 1, 2: 0 1 0, 2: 1 0 1");
        Check.defined(x, 3, 1, "7");
        Check.makes(x, "pair c3 1 c3 true", "4: 2 0 0, 3: 0 0, 3: 1 0");
        Check.makes(x, "pair c3 nil c3 c3 cons true nil", "4: 2 0 0, 3: 3 0 0, 3: 0 0, 3: 3 1 0");
    }

    private static void leftOverIsInt() {
        Shop x = new Shop();
        Check.defined(x, 0, 1, "v0");
        Check.makes(x, "case c0 nil 1 2", "4: 0, 0: 3 0 3 0");
        Check.defined(x, 1, 1, "let c0 nil let c0 lam v2 c0 v0");
        Check.makes(x, "c1 true", "4: 1, 1: 1 1, 0: 3 0 3 0, 0: 4 0 0 4 0 0, 0: 1 1");
    }

    private static void parametersTellWhatIsCalled() {
        Shop x = new Shop();
        Check.defined(x, 0, 1, "v0");
        Check.defined(x, 1, 2, "let c0 v0 let c0 v1 1");
        Check.makes(x, "c1 true nil", "4: 0, 1: 1 3 0 0, 0: 1 1, 0: 3 0 3 0");
        Check.makes(x, "c1 nil true", "4: 0, 1: 3 0 1 0, 0: 3 0 3 0, 0: 1 1");
        Check.defined(x, 1, 2, "let pair v1 1 1");
        Check.made(x, "c1 1 cons " + Check.pairs(6, "1") + " nil");
        Check.tooLarge(x, "c1 1 " + Check.pairs(7, "1"));
        Check.made(x, "c1 " + Check.pairs(7, "1") + " 1");
    }

    private static void bodyTellsWhatIsCalled() {
        Shop x = new Shop();
        Check.defined(x, 0, 0, "nil");
        Check.defined(x, 1, 0, "c0");
        Check.defined(x, 2, 1, "c1");
        Check.makes(x, "cons true c1", "4: 3 1, 1: 3 1, 0: 3 1");
        Check.makes(x, "cons true c2 5", "4: 3 1, 2: 0 3 1, 1: 3 1, 0: 3 1");
        Check.defined(x, 3, 0, "case c1 c0 v1");
        Check.makes(x, "cons nil c3", "4: 3 3 0, 3: 3 3 0, 1: 3 3 0, 0: 3 3 0");
    }

    private static void recursion() {
        Shop x = new Shop();
        Check.defined(x, 0, 2, "case v0 v1 cons v2 c0 v3 v1");
        Check.makes(x, "pair c0 nil cons 1 nil c0 nil cons true nil",
            "4: 2 3 0 3 1, 0: 3 0 3 0 3 0, 0: 3 1 3 1 3 1");
    }

    /** BAD if it has no body. */
    private static void badWithoutBody() {
        Shop x = new Shop();
        for (int f = 0; f < 5; f++) {
            Check.due("make " + f + " of a new object", x.make(f), MonoShop.BAD);
        }
        Check.defined(x, 0, 0, "5");
        Check.defined(x, 1, 0, "c0");
        Check.due("make 0", x.make(0), MonoShop.OK);
        Check.due("make 1", x.make(1), MonoShop.OK);
        Check.refused(x, 0, 0, "v0", MonoShop.UNBOUND, 0);
        Check.due("make 0, its body lost", x.make(0), MonoShop.BAD);
        Check.due("make 1, its body lost", x.make(1), MonoShop.BAD);
        Check.due("what was made before BAD", Check.instancesOf(x), "1: 0, 0: 0");
        Check.runs(x, "what was made before BAD", MonoShop.OK, 1, "5");
    }

    /** BAD if it has parameters. */
    private static void badWithParameters() {
        for (int parameters = 0; parameters <= 2; parameters++) {
            Shop x = new Shop();
            Check.ran(x, "true", MonoShop.OK, 0, "1");
            Check.defined(x, 0, parameters, "5");
            Check.due("make with " + parameters, x.make(0), parameters == 0 ? MonoShop.OK : MonoShop.BAD);
            Check.due("instances", Check.instancesOf(x), parameters == 0 ? "0: 0" : "4: 1");
            Check.runs(x, "what is made", MonoShop.OK, 0, parameters == 0 ? "5" : "1");
        }
    }

    /** LARGE if an instance would have a token of a LARGE type. */
    private static void largeTypeOfAToken() {
        String thirteen = Check.pairs(7, "1");
        String twelve = "cons " + Check.pairs(6, "1") + " nil";
        // Each puts two codes more around the type of its parameter, and gives that back.
        String[] around = {"first pair v0 1", "second pair 1 v0", "case cons cons v0 nil nil v0 v0", "app lam v0 1"};
        for (String body : around) {
            Shop x = new Shop();
            Check.defined(x, 0, 1, body);
            Check.made(x, "c0 " + twelve);
            Check.due("instances with 12 codes and 2 around them", x.instances(), 2);
            Check.due("run", x.run(), MonoShop.OK);
            Check.tooLarge(x, "c0 " + thirteen);
        }
        // ARROW from the type to itself: 1 + 6 + 6 codes, and 1 + 7 + 7.
        Shop x = new Shop();
        Check.defined(x, 0, 1, "app lam v1 v0");
        Check.made(x, "c0 cons " + Check.pairs(3, "1") + " nil");
        Check.due("instances with 6 codes twice", x.instances(), 2);
        Check.tooLarge(x, "c0 " + Check.pairs(4, "1"));
    }

    /** LARGE if an instance would have a variable of a LARGE type: then there is such a token, too. */
    private static void largeTypeOfAVariable() {
        Shop x = new Shop();
        Check.defined(x, 0, 1, "let pair v0 1 v0");
        Check.made(x, "c0 cons " + Check.pairs(6, "1") + " nil");
        Check.due("instances", x.instances(), 2);
        Check.tooLarge(x, "c0 " + Check.pairs(7, "1"));
        Check.defined(x, 0, 1, "let lam pair v0 v0 v0");
        Check.makes(x, "c0 pair 1 pair 2 3", "4: 2 0 2 0 0, 0: 2 0 2 0 0 2 0 2 0 0");
        Check.tooLarge(x, "c0 pair 1 cons pair 2 3 nil");
        // The parameter and the body may have 14 codes themselves.
        Check.defined(x, 0, 1, "v0");
        Check.made(x, "c0 cons " + Check.pairs(7, "1") + " nil");
        Check.due("instances with 14 codes", x.instances(), 2);
        Check.due("code 28, the last", x.instance(1, 28), 0);
        Check.due("code 29", x.instance(1, 29), -1);
    }

    private static void largeTypeFurtherDown() {
        Shop x = new Shop();
        Check.defined(x, 0, 1, "first pair v0 1");
        Check.defined(x, 1, 1, "c0 v0");
        Check.defined(x, 2, 1, "if true v0 c1 v0");
        Check.made(x, "c2 cons " + Check.pairs(6, "1") + " nil");
        Check.due("instances", x.instances(), 4);
        Check.tooLarge(x, "c2 " + Check.pairs(7, "1"));
        // A type that is LARGE for one instance may fit for another.
        Check.made(x, "pair c2 1 c0 true");
        Check.due("instances", x.instances(), 5);
        Check.tooLarge(x, "pair c2 1 first c0 " + Check.pairs(7, "1"));
    }

    /** LARGE if there would be a 13th instance. */
    private static void twelveInstances() {
        Shop x = new Shop();
        for (int f = 0; f < 4; f++) {
            Check.defined(x, f, 1, "v0");
        }
        Check.made(x, "pair c0 c1 c2 c3 1 pair c0 c1 c2 c3 true c0 c1 c2 nil");
        Check.due("instances", x.instances(), 12);
        Check.due("the last one", Check.instanceOf(x, 11), "2: 3 0 3 0");
        Check.due("one behind it", Check.instanceOf(x, 12), "");
        Check.runs(x, "12 instances", MonoShop.OK, 11, "1 1 0");
        Check.tooLarge(x, "pair c0 c1 c2 c3 1 pair c0 c1 c2 c3 true c0 c1 c2 c3 nil");
        Check.made(x, "pair c0 c1 c2 c3 1 pair c0 c1 c2 c3 true c0 c1 c2 c0 nil");
        Check.due("instances with a known one as the last call", x.instances(), 12);
        Check.made(x, "pair c0 c1 c2 c3 1 pair c0 c1 c2 c3 true c0 c1 nil");
        Check.due("instances", x.instances(), 11);
    }

    /** The 13th one counts wherever it would come from: here from the last instance gone through. */
    private static void twelveInstancesInAChain() {
        Shop x = new Shop();
        Check.defined(x, 0, 1, "v0");
        Check.defined(x, 1, 1, "let c0 v0 let c0 cons v0 nil 1");
        Check.defined(x, 2, 1, "add c1 v0 c1 true");
        Check.makes(x, "add c2 1 let c0 lam 1 let c0 true 3",
            "4: 0, 2: 0 0, 0: 4 0 0 4 0 0, 0: 1 1, 1: 0 0, 1: 1 0, 0: 0 0, 0: 3 0 3 0, 0: 3 1 3 1");
        String more = "let c0 lam 1 let c0 lam true let c0 lam nil let c0 pair 1 1 ";
        Check.made(x, more + "c2 1");
        Check.due("instances", x.instances(), 12);
        Check.due("the last one", Check.instanceOf(x, 11), "0: 3 1 3 1");
        Check.tooLarge(x, more + "let c0 lam lam 1 c2 1");
    }

    /** LARGE: then nothing is made. */
    private static void largeMakesNothing() {
        Shop x = new Shop();
        Check.defined(x, 0, 1, "first pair v0 1");
        Check.defined(x, 3, 0, "c0 " + Check.pairs(7, "1"));
        Check.due("make", x.make(3), MonoShop.LARGE);
        Check.due("instances", x.instances(), 0);
        Check.due("instance", x.instance(0, 0), -1);
        Check.due("run", x.run(), MonoShop.BAD);
        Check.due("make, BAD", x.make(0), MonoShop.BAD);
        Check.due("instances after BAD", x.instances(), 0);
        Check.due("run after BAD", x.run(), MonoShop.BAD);
        // The function stays as it is.
        Check.due("type", x.type(3, 12), 0);
        Check.ran(x, "c0 7", MonoShop.OK, 1, "7");
    }
}
