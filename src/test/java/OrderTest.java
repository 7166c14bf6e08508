/** Promise 12. The sentences stand above the tests. */
public final class OrderTest {
    private static final int OK = MonoShop.OK;
    private static final int[] NO_FUNCTIONS = {-1, 5, 6, 9, 10, 11, Integer.MIN_VALUE, Integer.MAX_VALUE};

    public static void main(String[] args) {
        largeTypeTakesWhatWasMade();
        manyInstancesTakeWhatWasMade();
        makeOfNoFunction();
        typeOfNoFunction();
        atWorkUntilTheBodyIsWorkedOut();
        lastCallsAreAtWork();
        operandsAreWorkedOutBefore();
        closuresOutliveTheirStep();
        draftIsEmptyAfterwards();
        draftStaysAfterBad();
        bindersAboveTen();
        bindersAboveTenUnused();
        firstBodyTakesNoStep();
        longBeforeDepth();
        Check.end();
    }

    private static Shop withSomethingMade() {
        Shop x = new Shop();
        Check.defined(x, 0, 1, "first pair v0 1");
        Check.ran(x, "c0 7", OK, 1, "7");
        return x;
    }

    private static void isGone(Shop x) {
        Check.due("instances", x.instances(), 0);
        Check.due("instance 0", x.instance(0, 0), -1);
        Check.due("instance 1", x.instance(1, 0), -1);
        Check.due("steps before the next run", x.steps(), 1);
        Check.due("value before the next run", x.value(0), 7);
        Check.runs(x, "what is gone", MonoShop.BAD, 0, "");
        Check.due("make", x.make(4), OK);
        Check.runs(x, "what is made again", OK, 1, "7");
    }

    /** make: with LARGE what was made before is gone, too; run answers BAD then. */
    private static void largeTypeTakesWhatWasMade() {
        Shop x = withSomethingMade();
        Check.defined(x, 3, 0, "c0 cons " + Check.pairs(6, "1") + " nil");
        Check.due("make with 14 codes", x.make(3), OK);
        Check.due("instances", x.instances(), 2);
        Check.due("make", x.make(4), OK);
        Check.defined(x, 3, 0, "c0 " + Check.pairs(7, "1"));
        Check.due("instances before", x.instances(), 2);
        Check.due("make with 15 codes", x.make(3), MonoShop.LARGE);
        isGone(x);
    }

    private static void manyInstancesTakeWhatWasMade() {
        Shop x = withSomethingMade();
        Check.defined(x, 1, 1, "c0 v0");
        Check.defined(x, 2, 1, "c1 c0 v0");
        String three = "let c2 1 let c2 true let c2 nil ";
        Check.defined(x, 3, 0, three + "let c1 lam 1 1");
        Check.due("make with 12 instances", x.make(3), OK);
        Check.due("instances", x.instances(), 12);
        Check.due("make", x.make(4), OK);
        Check.defined(x, 3, 0, three + "let c2 lam 1 1");
        Check.due("make with 13 instances", x.make(3), MonoShop.LARGE);
        isGone(x);
    }

    /** make: BAD also if f is not 0..4. */
    private static void makeOfNoFunction() {
        for (int f = 0; f < 5; f++) {
            Shop x = new Shop();
            Check.defined(x, f, 0, "true");
            Check.due("make " + f, x.make(f), OK);
            for (int none : NO_FUNCTIONS) {
                Check.due("make " + none, x.make(none), MonoShop.BAD);
                Check.due("instances after make " + none, Check.instancesOf(x), f + ": 1");
            }
            Check.runs(x, "what is made", OK, 0, "1");
        }
    }

    /** type: -1 also if f is not 0..4. */
    private static void typeOfNoFunction() {
        Shop x = new Shop();
        for (int f = 0; f < 5; f++) {
            Check.defined(x, f, 0, "true");
            Check.due("make " + f, x.make(f), OK);
            Check.due("type of " + f, x.type(f, 0), 1);
        }
        Check.draft(x, "true");
        for (int none : NO_FUNCTIONS) {
            Check.due("type of " + none, x.type(none, 0), -1);
        }
    }

    /** run: a STEP is at work from when it is taken until the body that it goes to is worked out wholly. */
    private static void atWorkUntilTheBodyIsWorkedOut() {
        Shop x = new Shop();
        Check.defined(x, 0, 1, "if less v0 1 0 add c0 add v0 -1 1");
        // What is worked out wholly makes room for what comes behind it, in the same body and below it.
        Check.ran(x, "add c0 19 add c0 19 c0 19", OK, 60, "57");
        Check.ran(x, "let c0 19 c0 v0", OK, 40, "19");
        Check.ran(x, "app lam add c0 18 c0 18 1", OK, 39, "36");
        Check.ran(x, "app lam add c0 18 c0 19 1", MonoShop.DEPTH, 40, "");
        Check.ran(x, "add c0 19 app lam c0 19 1", MonoShop.DEPTH, 41, "");
    }

    /** A CALL or APP that ends a body is at work no shorter than any other. */
    private static void lastCallsAreAtWork() {
        Shop x = new Shop();
        Check.defined(x, 0, 1, "if less v0 1 0 c0 add v0 -1");
        Check.ran(x, "c0 19", OK, 20, "0");
        Check.ran(x, "c0 20", MonoShop.DEPTH, 21, "");
        Check.ran(x, "app lam c0 v0 18", OK, 20, "0");
        Check.ran(x, "app lam c0 v0 19", MonoShop.DEPTH, 21, "");
        Check.defined(x, 1, 1, "let add v0 -1 if less v1 0 0 case cons v1 nil 0 c1 v2");
        Check.ran(x, "c1 19", OK, 20, "0");
        Check.ran(x, "c1 20", MonoShop.DEPTH, 21, "");
    }

    /** From when it is taken: its operands are worked out before. */
    private static void operandsAreWorkedOutBefore() {
        Shop x = new Shop();
        Check.defined(x, 0, 1, "if less v0 1 0 c0 add v0 -1");
        Check.ran(x, "c0 add 19 c0 19", OK, 40, "0");
        Check.ran(x, "c0 c0 c0 c0 c0 19", OK, 24, "0");
        Check.ran(x, "app lam c0 v0 add 18 c0 19", OK, 40, "0");
        Check.ran(x, "app lam c0 v0 add 19 c0 19", MonoShop.DEPTH, 41, "");
    }

    /** The body that it goes to: a LAM's body is gone to by the APP, not by what worked the LAM out. */
    private static void closuresOutliveTheirStep() {
        Shop x = new Shop();
        Check.defined(x, 0, 1, "if less v0 1 0 c0 add v0 -1");
        Check.defined(x, 1, 1, "lam c0 v0");
        Check.ran(x, "app c1 18 1", OK, 21, "0");
        Check.ran(x, "app c1 19 1", MonoShop.DEPTH, 22, "");
        Check.defined(x, 2, 1, "app c1 v0 1");
        Check.ran(x, "c2 17", OK, 21, "0");
        Check.ran(x, "c2 18", MonoShop.DEPTH, 22, "");
    }

    /** define: the draft is empty after every answer but BAD. */
    private static void draftIsEmptyAfterwards() {
        String[] bodies = {"1", "add", "1 2", "v0", "add true 1", Check.pairs(8, "1")};
        int[] answers = {OK, MonoShop.SHAPE, MonoShop.SHAPE, MonoShop.UNBOUND, MonoShop.TYPE, MonoShop.LARGE};
        for (int i = 0; i < bodies.length; i++) {
            Shop x = new Shop();
            Check.due("define as " + bodies[i], Check.define(x, 0, 0, bodies[i]), answers[i]);
            Check.refused(x, 1, 0, "", MonoShop.SHAPE, 0);
            Check.due("define as " + bodies[i], Check.define(x, 0, 0, bodies[i]), answers[i]);
            Check.typed(x, 1, 0, "true", "1");
            Check.draft(x, "add ".repeat(24));
            Check.due("a 25th token", x.token(0, 1), false);
        }
    }

    /** But BAD. */
    private static void draftStaysAfterBad() {
        int[][] outside = {{-1, 0}, {5, 0}, {0, -1}, {0, 3}, {5, 3}};
        for (int[] pair : outside) {
            Shop x = new Shop();
            Check.draft(x, "pair 1");
            Check.due("define " + pair[0] + " " + pair[1], x.define(pair[0], pair[1]), MonoShop.BAD);
            Check.draft(x, "true");
            Check.due("define", x.define(0, 0), OK);
            Check.due("type", Check.typeOf(x, 0), "2 0 1");
        }
    }

    /** UNBOUND: a binder of more than 10 is a CASE, LET or LAM of which the F would have more than 10 variables bound. */
    private static void bindersAboveTen() {
        String eight = "let 1 ".repeat(8);
        Shop x = new Shop();
        Check.defined(x, 0, 0, eight + "case nil nil v9");
        Check.refused(x, 0, 0, eight + "let 1 case nil nil v9", MonoShop.UNBOUND, 18);
        Check.defined(x, 0, 0, eight + "let 1 let 1 v9");
        Check.refused(x, 0, 0, eight + "let 1 let 1 let 1 v9", MonoShop.UNBOUND, 20);
        Check.defined(x, 0, 0, eight + "let 1 lam v9");
        Check.refused(x, 0, 0, eight + "let 1 let 1 lam v9", MonoShop.UNBOUND, 20);
        // Beside each other they don't add up.
        Check.defined(x, 0, 0, eight + "pair let 1 v8 case nil nil v9");
        Check.refused(x, 0, 0, eight + "pair let 1 v9 1", MonoShop.UNBOUND, 19);
    }

    /** Used or not. */
    private static void bindersAboveTenUnused() {
        for (int parameters = 0; parameters <= 2; parameters++) {
            Shop x = new Shop();
            String most = "let 1 ".repeat(9 - parameters);
            Check.defined(x, 0, parameters, most + "let 1 true");
            Check.refused(x, 0, parameters, most + "let 1 let 1 true", MonoShop.UNBOUND, 20 - 2 * parameters);
            Check.defined(x, 0, parameters, most + "lam true");
            Check.refused(x, 0, parameters, most + "let 1 lam true", MonoShop.UNBOUND, 20 - 2 * parameters);
            Check.refused(x, 0, parameters, most + "case nil true true", MonoShop.UNBOUND, 18 - 2 * parameters);
            Check.defined(x, 0, parameters, "let 1 ".repeat(8 - parameters) + "case nil true true");
        }
    }

    /** run: the body of the function that was made is worked out without a STEP. */
    private static void firstBodyTakesNoStep() {
        Shop x = new Shop();
        Check.ran(x, "add 1 2", OK, 0, "3");
        Check.defined(x, 0, 0, "c0");
        Check.due("make", x.make(0), OK);
        Check.runs(x, "a function that calls itself", MonoShop.DEPTH, 21, "");
        Check.ran(x, "c0", MonoShop.DEPTH, 21, "");
        Check.defined(x, 1, 1, "if less v0 1 0 let c1 add v0 -1 c1 add v0 -1");
        Check.ran(x, "add c1 6 add c1 5 add c1 2 c1 1", OK, 200, "0");
    }

    /** With 200 STEPS taken the next one is LONG, also if it would be the 21st at work. */
    private static void longBeforeDepth() {
        Shop x = new Shop();
        Check.defined(x, 0, 1, "if less v0 1 0 let c0 add v0 -1 c0 add v0 -1");
        Check.defined(x, 1, 0, "c1");
        // 180 and 179 STEPS, then 20 that stay at work, then one more.
        Check.ran(x, "add c0 6 add c0 4 add c0 3 add c0 2 c1", MonoShop.LONG, 200, "");
        Check.ran(x, "add c0 6 add c0 4 add c0 3 add c0 1 add c0 1 c1", MonoShop.DEPTH, 200, "");
        Check.ran(x, "add c0 6 add c0 4 add c0 3 add c0 2 app lam c1 1", MonoShop.LONG, 200, "");
        Check.ran(x, "add c0 6 add c0 4 add c0 3 add c0 2 add c0 0 c1", MonoShop.LONG, 200, "");
    }
}
