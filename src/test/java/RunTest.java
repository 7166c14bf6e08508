/** Promise 9. The sentences stand above the tests. */
public final class RunTest {
    private static final int OK = MonoShop.OK;
    /** Takes 2 to the power of n + 1, less 1, steps. */
    private static final String TWICE = "if less v0 1 0 let c0 add v0 -1 c0 add v0 -1";
    /** Works out 7 n CONS, in n + 1 steps. */
    private static final String SEVEN = "if less v0 1 v1 c0 add v0 -1 " + "cons v0 ".repeat(7) + "v1";
    /** Works out n LAM, in n + 1 steps. */
    private static final String LAMS = "if less v0 1 0 let lam v1 c1 add v0 -1";
    private static final String TWO_HUNDRED = "cons 1 cons 2 cons 3 cons 4 c0 10 c0 18 nil";

    public static void main(String[] args) {
        plainWords();
        choices();
        closures();
        badIfNothingIsMade();
        tooManyCalls();
        tooManyApps();
        depthOfCalls();
        depthOfApps();
        depthOfBoth();
        fullOfConses();
        fullOfLams();
        fullOfNeither();
        fullAfterOperands();
        pairsAreNotCounted();
        deepest();
        countsBeginAnew();
        firstOfSeveralFaults();
        Check.end();
    }

    private static void plain(String body, String value) {
        Shop x = new Shop();
        Check.ran(x, body, OK, 0, value);
    }

    /** Runs what was made. */
    private static void plainWords() {
        plain("-5", "-5");
        plain("true", "1");
        plain("false", "0");
        plain("pair less 1 2 pair less 2 2 less 3 2", "1 0 0");
        plain("less -2147483648 2147483647", "1");
        plain("less 2147483647 -2147483648", "0");
        plain("first pair 1 2", "1");
        plain("second pair 1 2", "2");
        plain("cons 3 cons 4 nil", "2 3 4");
        plain("lam v0", "0");
    }

    private static void choices() {
        plain("if true 1 2", "1");
        plain("if less 2 1 1 2", "2");
        plain("case cons 7 nil 1 v0", "7");
        plain("case cons 7 cons 8 nil nil v1", "1 8");
        plain("let 5 add v0 v0", "10");
        plain("let 1 let 2 pair v0 v1", "1 2");
        plain("let 1 add let 2 add v0 v1 let 4 add v0 v1", "8");
        plain("let 9 case cons 7 nil 1 add v0 v1", "16");
        Shop x = new Shop();
        Check.defined(x, 0, 0, "c0");
        Check.ran(x, "if true 1 c0", OK, 0, "1");
        Check.ran(x, "if false c0 1", OK, 0, "1");
        Check.ran(x, "pair lam c0 3", OK, 0, "0 3");
        Check.defined(x, 1, 2, "less v0 v1");
        Check.ran(x, "pair c1 1 2 c1 2 1", OK, 2, "1 0");
    }

    private static void closures() {
        Shop x = new Shop();
        Check.ran(x, "app lam add v0 1 4", OK, 1, "5");
        Check.ran(x, "let 5 let lam add v0 v1 let 7 app v1 v2", OK, 1, "12");
        Check.ran(x, "app app lam lam pair v0 v1 1 true", OK, 2, "1 1");
        Check.ran(x, "app first pair let 1 lam add v0 v1 let 2 v0 10", OK, 1, "11");
        Check.defined(x, 0, 2, "lam app v0 app v1 v2");
        Check.ran(x, "app c0 lam add v0 v0 lam add v0 1 5", OK, 4, "12");
        Check.ran(x, "app c0 lam less v0 0 lam add v0 1 -5", OK, 4, "1");
        Check.defined(x, 1, 2, "case v1 nil cons app v0 v2 c1 v0 v3");
        Check.ran(x, "let 100 c1 lam add v0 v1 cons 1 cons 2 nil", OK, 5, "2 101 102");
        Check.defined(x, 2, 1, "lam v0");
        Check.ran(x, "let c2 1 let c2 2 pair app v0 nil app v1 nil", OK, 4, "1 2");
    }

    /** BAD if nothing is. */
    private static void badIfNothingIsMade() {
        Shop x = new Shop();
        Check.runs(x, "a new object", MonoShop.BAD, 0, "");
        Check.defined(x, 0, 1, "first pair v0 1");
        Check.defined(x, 4, 0, "c0 1");
        Check.runs(x, "what is only defined", MonoShop.BAD, 0, "");
        Check.due("make", x.make(0), MonoShop.BAD);
        Check.runs(x, "what a BAD make left", MonoShop.BAD, 0, "");
        Check.due("make", x.make(4), OK);
        Check.runs(x, "what is made", OK, 1, "1");
        Check.defined(x, 3, 0, "c0 " + Check.pairs(7, "1"));
        Check.due("make", x.make(3), MonoShop.LARGE);
        Check.runs(x, "what a LARGE make left", MonoShop.BAD, 0, "");
        Check.due("make", x.make(4), OK);
        Check.runs(x, "what is made again", OK, 1, "1");
    }

    /** LONG: a 201st STEP. */
    private static void tooManyCalls() {
        Shop x = new Shop();
        Check.defined(x, 0, 1, TWICE);
        Check.ran(x, "c0 6", OK, 127, "0");
        Check.ran(x, "c0 7", MonoShop.LONG, 200, "");
        Check.ran(x, "add c0 6 add c0 5 add c0 2 c0 0", OK, 198, "0");
        Check.ran(x, "add c0 6 add c0 5 add c0 2 add c0 0 c0 0", OK, 199, "0");
        Check.ran(x, "add c0 6 add c0 5 add c0 2 c0 1", OK, 200, "0");
        Check.ran(x, "add c0 6 add c0 5 add c0 2 add c0 1 c0 0", MonoShop.LONG, 200, "");
        Check.ran(x, "c0 1", OK, 3, "0");
    }

    private static void tooManyApps() {
        Shop x = new Shop();
        Check.defined(x, 0, 1, TWICE);
        Check.ran(x, "add c0 6 add c0 5 add c0 2 add app lam v0 1 app lam v0 1", OK, 199, "2");
        Check.ran(x, "add c0 6 add c0 5 add c0 2 add c0 0 add app lam v0 1 app lam v0 1", OK, 200, "2");
        Check.ran(x, "add c0 6 add c0 5 add c0 2 add c0 1 app lam v0 1", MonoShop.LONG, 200, "");
        Check.ran(x, "add c0 6 add c0 5 add c0 2 add c0 1 first pair 1 lam v0", OK, 200, "1");
    }

    /** DEPTH: a STEP would be the 21st that is at work (after it is taken). */
    private static void depthOfCalls() {
        Shop x = new Shop();
        Check.defined(x, 0, 1, "if less v0 1 0 add 1 c0 add v0 -1");
        Check.ran(x, "c0 19", OK, 20, "19");
        Check.ran(x, "c0 20", MonoShop.DEPTH, 21, "");
        Check.ran(x, "add c0 19 c0 19", OK, 40, "38");
        Check.ran(x, "add c0 19 c0 20", MonoShop.DEPTH, 41, "");
        Check.ran(x, "c0 18", OK, 19, "18");
    }

    private static void depthOfApps() {
        Shop x = new Shop();
        Check.defined(x, 0, 1, "lam add 1 app v0 v1");
        Check.defined(x, 1, 1, "c0 c0 c0 c0 c0 c0 c0 c0 c0 v0");
        // One step for each function 0 and 1, and those of the APPs, each at work while the next one is.
        Check.ran(x, "app c0 c1 c1 lam v0 5", OK, 21 + 20, "24");
        Check.ran(x, "app c0 c0 c1 c1 lam v0 5", MonoShop.DEPTH, 22 + 21, "");
        Check.ran(x, "app c1 c1 lam v0 5", OK, 20 + 19, "23");
    }

    private static void depthOfBoth() {
        Shop x = new Shop();
        Check.defined(x, 0, 1, "if less v0 1 0 add 1 c0 add v0 -1");
        Check.ran(x, "app lam c0 v0 18", OK, 20, "18");
        Check.ran(x, "app lam c0 v0 19", MonoShop.DEPTH, 21, "");
        Check.defined(x, 1, 1, "if less v0 1 0 app lam c1 add v1 -1 v0");
        Check.ran(x, "c1 9", OK, 19, "0");
        Check.ran(x, "app lam c1 v0 9", OK, 20, "0");
        Check.ran(x, "c1 10", MonoShop.DEPTH, 21, "");
    }

    /** FULL: a 201st CONS is worked out. */
    private static void fullOfConses() {
        Shop x = new Shop();
        Check.defined(x, 0, 2, SEVEN);
        StringBuilder value = new StringBuilder("200 1 2 3 4");
        for (int n = 1; n <= 10; n++) {
            value.append((" " + n).repeat(7));
        }
        for (int n = 1; n <= 18; n++) {
            value.append((" " + n).repeat(7));
        }
        Check.ran(x, TWO_HUNDRED, OK, 30, value.toString());
        Check.ran(x, "cons 0 " + TWO_HUNDRED, MonoShop.FULL, 30, "");
        // They count whatever is done with them.
        Check.ran(x, "let " + TWO_HUNDRED + " nil", OK, 30, "0");
        Check.ran(x, "let " + TWO_HUNDRED + " cons true nil", MonoShop.FULL, 30, "");
        Check.ran(x, "let " + TWO_HUNDRED + " if true 1 case cons 2 nil 3 4", OK, 30, "1");
    }

    /** FULL: a 41st LAM is worked out. */
    private static void fullOfLams() {
        Shop x = new Shop();
        Check.defined(x, 1, 1, LAMS);
        Check.ran(x, "add c1 19 add c1 19 c1 2", OK, 43, "0");
        Check.ran(x, "add c1 19 add c1 19 c1 3", MonoShop.FULL, 43, "");
        Check.ran(x, "add c1 19 add c1 19 add c1 2 app lam v0 1", MonoShop.FULL, 43, "");
        Check.ran(x, "pair add c1 19 add c1 19 c1 1 lam v0", OK, 42, "0 0");
        Check.ran(x, "pair add c1 19 add c1 19 c1 2 lam v0", MonoShop.FULL, 43, "");
        // A LAM inside of one that is not gone to is not worked out.
        Check.ran(x, "pair add c1 19 add c1 19 c1 1 lam lam v0", OK, 42, "0 0");
        Check.ran(x, "pair add c1 19 add c1 19 c1 1 app lam lam v0 1", MonoShop.FULL, 43, "");
    }

    /** 200 CONS and 40 LAM find room together. */
    private static void fullOfNeither() {
        Shop x = new Shop();
        Check.defined(x, 0, 2, SEVEN);
        Check.defined(x, 1, 1, LAMS);
        Check.made(x, "let c1 19 let c1 19 let c1 2 " + TWO_HUNDRED);
        Check.due("run", x.run(), OK);
        Check.due("steps", x.steps(), 73);
        Check.due("how many", x.value(0), 200);
        Check.due("the last one", x.value(200), 18);
        Check.due("behind the last one", x.value(201), Check.NOTHING);
        Check.ran(x, "let c1 19 let c1 19 let c1 3 " + TWO_HUNDRED, MonoShop.FULL, 43, "");
        Check.ran(x, "let c1 19 let c1 19 let c1 2 cons 0 " + TWO_HUNDRED, MonoShop.FULL, 73, "");
    }

    /** FULL: after its operands. */
    private static void fullAfterOperands() {
        Shop x = new Shop();
        Check.defined(x, 0, 2, SEVEN);
        Check.defined(x, 1, 1, "c1 v0");
        Check.defined(x, 2, 0, "5");
        Check.ran(x, "let " + TWO_HUNDRED + " cons c2 nil", MonoShop.FULL, 31, "");
        Check.ran(x, "let " + TWO_HUNDRED + " cons c2 let c2 nil", MonoShop.FULL, 32, "");
        Check.ran(x, "let " + TWO_HUNDRED + " cons c1 1 nil", MonoShop.DEPTH, 51, "");
        Check.ran(x, "let " + TWO_HUNDRED + " cons 1 c1 nil", MonoShop.DEPTH, 51, "");
    }

    private static void pairsAreNotCounted() {
        Shop x = new Shop();
        Check.defined(x, 0, 1, "if less v0 1 0 let " + Check.pairs(7, "1") + " c0 add v0 -1");
        Check.ran(x, "add c0 19 add c0 19 add c0 19 add c0 19 c0 19", OK, 100, "0");
        Check.defined(x, 1, 1, "if less v0 1 0 let " + Check.pairs(7, "1") + " c1 add v0 -1");
        Check.defined(x, 0, 2, SEVEN);
        Check.made(x, "let c1 9 " + TWO_HUNDRED);
        Check.due("run with 54 PAIRs and 200 CONSes", x.run(), OK);
        Check.due("how many", x.value(0), 200);
    }

    /** As much at work at once as there can be: 21 bodies, with all of their tokens begun. */
    private static void deepest() {
        Shop x = new Shop();
        Check.defined(x, 1, 1, "v0");
        Check.defined(x, 0, 1, "c1 ".repeat(22) + "c0 v0");
        Check.ran(x, "c1 ".repeat(22) + "c0 1", MonoShop.DEPTH, 21, "");
        Check.defined(x, 0, 0, "add 1 ".repeat(11) + "c0");
        Check.ran(x, "add 1 ".repeat(11) + "c0", MonoShop.DEPTH, 21, "");
        Check.defined(x, 0, 1, "if less v0 1 0 " + "add 1 ".repeat(7) + "c0 add v0 -1");
        Check.ran(x, "add 1 ".repeat(10) + "c0 19", OK, 20, "143");
    }

    /** Each run begins with no STEP, CONS or LAM. */
    private static void countsBeginAnew() {
        Shop x = new Shop();
        Check.defined(x, 0, 2, SEVEN);
        Check.defined(x, 1, 1, LAMS);
        Check.made(x, "let c1 19 let c1 19 let c1 2 let " + TWO_HUNDRED + " 5");
        for (int i = 0; i < 3; i++) {
            Check.runs(x, "200 CONS and 40 LAM", OK, 73, "5");
        }
        Check.defined(x, 1, 1, "if less v0 1 0 let c1 add v0 -1 c1 add v0 -1");
        Check.made(x, "add c1 6 add c1 5 add c1 2 c1 1");
        for (int i = 0; i < 3; i++) {
            Check.runs(x, "200 STEPS", OK, 200, "0");
        }
        Check.made(x, "c1 20");
        for (int i = 0; i < 3; i++) {
            Check.runs(x, "a STEP too deep", MonoShop.DEPTH, 21, "");
        }
        Check.ran(x, "c1 5", OK, 63, "0");
    }

    private static void firstOfSeveralFaults() {
        Shop x = new Shop();
        Check.defined(x, 0, 2, SEVEN);
        Check.defined(x, 1, 1, "c1 v0");
        Check.ran(x, "add c1 1 case cons 0 " + TWO_HUNDRED + " 1 2", MonoShop.DEPTH, 21, "");
        Check.ran(x, "add case cons 0 " + TWO_HUNDRED + " 1 2 c1 1", MonoShop.FULL, 30, "");
    }
}
