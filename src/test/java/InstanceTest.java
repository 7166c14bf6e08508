/** Promise 8. The sentences stand above the tests. */
public final class InstanceTest {
    public static void main(String[] args) {
        functionAndCodes();
        edgesOfTheInstances();
        edgesOfTheCodes();
        longest();
        afterLarge();
        afterASmallerMake();
        Check.end();
    }

    /** k 0 its function, k 1.. the codes of its types, one behind the other. */
    private static void functionAndCodes() {
        for (int f = 0; f < 5; f++) {
            Shop x = new Shop();
            int other = (f + 1) % 5;
            Check.defined(x, f, 2, "pair v1 cons v0 nil");
            Check.defined(x, other, 0, "c" + f + " true 1");
            Check.due("make", x.make(other), MonoShop.OK);
            Check.due("instances", Check.instancesOf(x), other + ": 2 0 3 1, " + f + ": 1 0 2 0 3 1");
        }
    }

    /** Instance i (0 the first); -1 if there is none. */
    private static void edgesOfTheInstances() {
        Shop x = new Shop();
        Check.due("of a new object", x.instance(0, 0), -1);
        Check.defined(x, 0, 1, "v0");
        Check.makes(x, "c0 true", "4: 1, 0: 1 1");
        Check.due("instance 0", x.instance(0, 0), 4);
        Check.due("instance 1, the last", x.instance(1, 0), 0);
        int[] none = {-1, 2, 3, 11, 12, 13, Integer.MIN_VALUE, Integer.MAX_VALUE};
        for (int i : none) {
            Check.due("instance " + i, x.instance(i, 0), -1);
            Check.due("instance " + i, x.instance(i, 1), -1);
        }
    }

    /** -1 if there is none: before the function and behind the last code. */
    private static void edgesOfTheCodes() {
        Shop x = new Shop();
        Check.defined(x, 0, 1, "v0");
        Check.makes(x, "c0 true", "4: 1, 0: 1 1");
        Check.due("code 1 of instance 0, the last", x.instance(0, 1), 1);
        Check.due("code 2 of instance 0", x.instance(0, 2), -1);
        Check.due("code 2 of instance 1, the last", x.instance(1, 2), 1);
        Check.due("code 3 of instance 1", x.instance(1, 3), -1);
        int[] none = {-1, 4, 14, 15, 41, 42, 43, Integer.MIN_VALUE, Integer.MAX_VALUE};
        for (int k : none) {
            Check.due("code " + k, x.instance(0, k), -1);
            Check.due("code " + k, x.instance(1, k), -1);
        }
    }

    /** Three types of 14 codes each. */
    private static void longest() {
        Shop x = new Shop();
        String codes = " 3 2 1 2 1 2 1 2 1 2 1 2 1 1";
        Check.defined(x, 0, 0, "cons " + Check.pairs(7, "true") + " nil");
        Check.defined(x, 1, 2, "if true v0 v1");
        Check.makes(x, "c1 c0 c0", "4:" + codes + ", 1:" + codes + codes + codes + ", 0:" + codes);
        Check.due("code 42, the last", x.instance(1, 42), 1);
        Check.due("code 43", x.instance(1, 43), -1);
        Check.due("run", x.run(), MonoShop.OK);
        Check.due("value", Check.valueOf(x), "1 1 1 1 1 1 1 1");
    }

    private static void afterLarge() {
        Shop x = new Shop();
        Check.defined(x, 0, 1, "first pair v0 1");
        Check.makes(x, "c0 3", "4: 0, 0: 0 0");
        Check.tooLarge(x, "c0 " + Check.pairs(7, "1"));
        for (int i = -1; i < 3; i++) {
            Check.due("instance " + i + " after LARGE", x.instance(i, 0), -1);
            Check.due("instance " + i + " after LARGE", x.instance(i, 1), -1);
        }
    }

    private static void afterASmallerMake() {
        Shop x = new Shop();
        Check.defined(x, 0, 1, "v0");
        Check.makes(x, "pair c0 nil c0 true", "4: 2 3 0 1, 0: 3 0 3 0, 0: 1 1");
        Check.makes(x, "c0 5", "4: 0, 0: 0 0");
        Check.due("instance 2", x.instance(2, 0), -1);
        Check.due("code 2 of instance 0", x.instance(0, 2), -1);
        Check.due("code 3 of instance 1", x.instance(1, 3), -1);
    }
}
