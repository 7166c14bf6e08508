/** Promises 6, 7 and 8, with what promise 12 adds to them. */
public final class MakeTest {
    public static void main(String[] args) {
        bad();
        orderOfInstances();
        bodyTypesTellApart();
        leftOverIsInt();
        recursion();
        twelveInstances();
        largeInAnInstance();
        largeMakesNothing();
        whatIsMadeStays();
        nothingThere();
        Check.end();
    }

    private static void makes(MonoShop x, String body, String instances) {
        Check.made(x, body);
        Check.due("instances of " + body, Check.instancesOf(x), instances);
    }

    private static void bad() {
        MonoShop x = new MonoShop();
        Check.defined(x, 0, 1, "v0");
        Check.defined(x, 1, 2, "v0");
        int[] wrong = {0, 1, 2, 4, -1, 5, Integer.MIN_VALUE, Integer.MAX_VALUE};
        for (int f : wrong) {
            Check.due("make " + f, x.make(f), MonoShop.BAD);
            Check.due("instances", x.instances(), 0);
        }
        makes(x, "c0 3", "4: 0, 0: 0 0");
        for (int f : wrong) {
            Check.due("make " + f, f == 4 ? MonoShop.BAD : x.make(f), MonoShop.BAD);
            Check.due("instances stay", x.instances(), 2);
        }
        Check.due("run after BAD", x.run(), MonoShop.OK);
        Check.defined(x, 0, 0, "5");
        Check.due("make 0", x.make(0), MonoShop.OK);
        Check.due("make 5 with something made", x.make(5), MonoShop.BAD);
        Check.due("type of 5 with something made", x.type(5, 0), -1);
        Check.due("make 9 with something made", x.make(9), MonoShop.BAD);
    }

    private static void orderOfInstances() {
        MonoShop x = new MonoShop();
        Check.defined(x, 0, 1, "v0");
        Check.defined(x, 1, 1, "pair c0 v0 c0 true");
        Check.defined(x, 2, 1, "c1 cons v0 nil");
        // The tokens' order within an instance, and all of an instance before the next one.
        makes(x, "pair c2 1 c0 nil",
            "4: 2 2 3 0 1 3 0, 2: 0 2 3 0 1, 0: 3 0 3 0, 1: 3 0 2 3 0 1, 0: 1 1");
        makes(x, "c0 c0 c0 1", "4: 0, 0: 0 0");
        makes(x, "c0 pair c0 1 c0 true", "4: 2 0 1, 0: 2 0 1 2 0 1, 0: 0 0, 0: 1 1");
        makes(x, "if false c2 1 c1 nil", "4: 2 3 0 1, 2: 0 2 3 0 1, 1: 3 0 2 3 0 1, 0: 3 0 3 0, 0: 1 1");
        makes(x, "lam c0 v0", "4: 4 0 0, 0: 0 0");
        Check.defined(x, 3, 0, "c0 5");
        Check.due("make 3", x.make(3), MonoShop.OK);
        Check.due("instances of another function", Check.instancesOf(x), "3: 0, 0: 0 0");
    }

    private static void bodyTypesTellApart() {
        MonoShop x = new MonoShop();
        Check.defined(x, 0, 1, "nil");
        makes(x, "pair cons 1 c0 2 cons true c0 2", "4: 2 3 0 3 1, 0: 0 3 0, 0: 0 3 1");
        Check.defined(x, 1, 0, "nil");
        makes(x, "pair cons 1 c1 cons true c1", "4: 2 3 0 3 1, 1: 3 0, 1: 3 1");
        Check.defined(x, 2, 2, "v0");
        makes(x, "pair c2 1 true c2 true 1", "4: 2 0 1, 2: 0 1 0, 2: 1 0 1");
        Check.defined(x, 3, 1, "7");
        makes(x, "pair c3 1 c3 true", "4: 2 0 0, 3: 0 0, 3: 1 0");
        makes(x, "pair c3 nil c3 c3 cons true nil", "4: 2 0 0, 3: 3 0 0, 3: 0 0, 3: 3 1 0");
    }

    private static void leftOverIsInt() {
        MonoShop x = new MonoShop();
        makes(x, "nil", "4: 3 0");
        makes(x, "lam lam v0", "4: 4 0 4 0 0");
        Check.defined(x, 0, 1, "v0");
        makes(x, "case c0 nil 1 2", "4: 0, 0: 3 0 3 0");
        Check.defined(x, 1, 1, "let c0 nil let c0 lam v2 c0 v0");
        makes(x, "c1 true", "4: 1, 1: 1 1, 0: 3 0 3 0, 0: 4 0 0 4 0 0, 0: 1 1");
        makes(x, "c4", "4: 0");
    }

    private static void recursion() {
        MonoShop x = new MonoShop();
        Check.defined(x, 0, 2, "case v0 v1 cons v2 c0 v3 v1");
        makes(x, "pair c0 nil cons 1 nil c0 nil cons true nil",
            "4: 2 3 0 3 1, 0: 3 0 3 0 3 0, 0: 3 1 3 1 3 1");
    }

    private static void twelveInstances() {
        MonoShop x = new MonoShop();
        for (int f = 0; f < 4; f++) {
            Check.defined(x, f, 1, "v0");
        }
        Check.defined(x, 4, 0, "pair c0 c1 c2 c3 1 pair c0 c1 c2 c3 true c0 c1 c2 nil");
        Check.due("make with 12", x.make(4), MonoShop.OK);
        Check.due("instances", x.instances(), 12);
        Check.due("the last one", Check.instanceOf(x, 11), "2: 3 0 3 0");
        Check.due("run", x.run(), MonoShop.OK);
        Check.defined(x, 4, 0, "pair c0 c1 c2 c3 1 pair c0 c1 c2 c3 true c0 c1 c2 c3 nil");
        Check.due("make with 13", x.make(4), MonoShop.LARGE);
        Check.due("instances", x.instances(), 0);
        Check.defined(x, 4, 0, "pair c0 c1 c2 c3 1 pair c0 c1 c2 c3 true c0 c1 c2 c0 nil");
        Check.due("make with 12 and a known one behind", x.make(4), MonoShop.OK);
        Check.due("instances", x.instances(), 12);
    }

    private static void largeInAnInstance() {
        MonoShop x = new MonoShop();
        Check.defined(x, 0, 1, "first pair v0 pair v0 v0");
        makes(x, "c0 pair 1 cons 2 nil", "4: 2 0 3 0, 0: 2 0 3 0 2 0 3 0");
        Check.defined(x, 4, 0, "c0 pair 1 pair 2 3");
        Check.due("make with a token's type of 17 codes", x.make(4), MonoShop.LARGE);
        Check.defined(x, 1, 1, "let lam pair v0 v0 v0");
        makes(x, "c1 pair 1 pair 2 3", "4: 2 0 2 0 0, 1: 2 0 2 0 0 2 0 2 0 0");
        Check.defined(x, 4, 0, "c1 pair 1 cons pair 2 3 nil");
        Check.due("make with a variable's type of 15 codes", x.make(4), MonoShop.LARGE);
    }

    private static void largeMakesNothing() {
        MonoShop x = new MonoShop();
        Check.defined(x, 0, 1, "first pair v0 pair v0 v0");
        Check.defined(x, 3, 0, "c0 pair 1 pair 2 3");
        Check.ran(x, "c0 7", MonoShop.OK, 1, "7");
        Check.due("make", x.make(3), MonoShop.LARGE);
        Check.due("instances", x.instances(), 0);
        Check.due("instance", x.instance(0, 0), -1);
        Check.due("the value of the latest run", Check.valueOf(x), "7");
        Check.due("the steps of the latest run", x.steps(), 1);
        Check.due("make, BAD", x.make(0), MonoShop.BAD);
        Check.due("instances after BAD", x.instances(), 0);
        Check.due("run", x.run(), MonoShop.BAD);
        Check.due("make", x.make(4), MonoShop.OK);
        Check.due("run", x.run(), MonoShop.OK);
    }

    private static void whatIsMadeStays() {
        MonoShop x = new MonoShop();
        Check.defined(x, 0, 1, "add v0 1");
        Check.defined(x, 1, 2, "c0 add v0 v1");
        makes(x, "c1 2 3", "4: 0, 1: 0 0 0, 0: 0 0");
        Check.defined(x, 0, 2, "pair v1 v0");
        Check.defined(x, 1, 0, "true");
        Check.refused(x, 4, 0, "c0", MonoShop.SHAPE, 1);
        Check.due("instances", Check.instancesOf(x), "4: 0, 1: 0 0 0, 0: 0 0");
        Check.due("run", x.run(), MonoShop.OK);
        Check.due("value", Check.valueOf(x), "6");
        Check.due("steps", x.steps(), 2);
        Check.due("make 1", x.make(1), MonoShop.OK);
        Check.due("run", x.run(), MonoShop.OK);
        Check.due("value of the new one", Check.valueOf(x), "1");
    }

    private static void nothingThere() {
        MonoShop x = new MonoShop();
        Check.defined(x, 0, 1, "v0");
        makes(x, "c0 true", "4: 1, 0: 1 1");
        int[] outside = {-1, 2, 3, 11, 12, 13, Integer.MIN_VALUE, Integer.MAX_VALUE};
        for (int i : outside) {
            Check.due("instance " + i, x.instance(i, 0), -1);
        }
        int[] codes = {-1, 2, 3, 42, 43, Integer.MIN_VALUE, Integer.MAX_VALUE};
        for (int k : codes) {
            Check.due("code " + k, x.instance(0, k), -1);
        }
    }
}
