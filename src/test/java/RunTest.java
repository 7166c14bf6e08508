/** Promises 9, 10 and 11, with what promise 12 adds to them. */
public final class RunTest {
    private static final int OK = MonoShop.OK;

    public static void main(String[] args) {
        plainWords();
        choices();
        closures();
        steps();
        depth();
        tooLong();
        longBeforeDepth();
        fullOfConses();
        fullOfClosures();
        faultsInOrder();
        latestRun();
        writtenOut();
        Check.end();
    }

    private static void plain(String body, String value) {
        MonoShop x = new MonoShop();
        Check.ran(x, body, OK, 0, value);
    }

    private static void plainWords() {
        plain("-5", "-5");
        plain("2147483647", "2147483647");
        plain("-2147483648", "-2147483648");
        plain("add 2147483647 1", "-2147483648");
        plain("add -2147483648 -1", "2147483647");
        plain("true", "1");
        plain("false", "0");
        plain("pair less 1 2 pair less 2 2 less 3 2", "1 0 0");
        plain("less -2147483648 2147483647", "1");
        plain("pair true pair 5 nil", "1 5 0");
        plain("first pair 1 2", "1");
        plain("second pair 1 2", "2");
        plain("nil", "0");
        plain("cons 3 cons 4 nil", "2 3 4");
        plain("cons nil cons cons true nil nil", "2 0 1 1");
        plain("lam v0", "0");
        plain("cons lam v0 cons lam 1 nil", "2 0 0");
        plain("pair lam v0 5", "0 5");
        plain("cons pair 1 true cons pair 2 false nil", "2 1 1 2 0");
    }

    private static void choices() {
        plain("if true 1 2", "1");
        plain("if less 2 1 1 2", "2");
        plain("case nil 1 v0", "1");
        plain("case cons 7 nil 1 v0", "7");
        plain("case cons 7 cons 8 nil nil v1", "1 8");
        plain("case cons nil nil 1 2", "2");
        plain("let 5 add v0 v0", "10");
        plain("let 1 let 2 pair v0 v1", "1 2");
        plain("let 1 add let 2 add v0 v1 let 4 add v0 v1", "8");
        plain("let 9 case cons 7 nil 1 add v0 v1", "16");
        MonoShop x = new MonoShop();
        Check.defined(x, 0, 0, "c0");
        Check.ran(x, "if true 1 c0", OK, 0, "1");
        Check.ran(x, "case nil 1 c0", OK, 0, "1");
        Check.ran(x, "case cons 1 nil c0 2", OK, 0, "2");
        Check.ran(x, "pair lam c0 3", OK, 0, "0 3");
        Check.defined(x, 1, 2, "less v0 v1");
        Check.ran(x, "pair c1 1 2 c1 2 1", OK, 2, "1 0");
    }

    private static void closures() {
        MonoShop x = new MonoShop();
        Check.ran(x, "app lam add v0 1 4", OK, 1, "5");
        Check.ran(x, "let 5 let lam add v0 v1 let 7 app v1 v2", OK, 1, "12");
        Check.ran(x, "app app lam lam pair v0 v1 1 true", OK, 2, "1 1");
        Check.ran(x, "app first pair let 1 lam add v0 v1 let 2 v0 10", OK, 1, "11");
        Check.defined(x, 0, 2, "lam app v0 app v1 v2");
        Check.ran(x, "app c0 lam add v0 v0 lam add v0 1 5", OK, 4, "12");
        Check.ran(x, "app c0 lam less v0 0 lam add v0 1 -5", OK, 4, "1");
        Check.defined(x, 1, 2, "case v1 nil cons app v0 v2 c1 v0 v3");
        Check.ran(x, "let 100 c1 lam add v0 v1 cons 1 cons 2 nil", OK, 5, "2 101 102");
        Check.defined(x, 2, 1, "lam v0");
        Check.ran(x, "let c2 1 let c2 2 pair app v0 nil app v1 nil", OK, 4, "1 2");
    }

    private static void steps() {
        MonoShop x = new MonoShop();
        Check.due("steps of a new object", x.steps(), 0);
        Check.defined(x, 0, 0, "3");
        Check.ran(x, "c0", OK, 1, "3");
        Check.ran(x, "let c0 add v0 v0", OK, 1, "6");
        Check.ran(x, "add c0 c0", OK, 2, "6");
        Check.ran(x, "lam c0", OK, 0, "0");
        Check.ran(x, "if less c0 4 c0 add c0 c0", OK, 2, "3");
        Check.due("steps stay", x.steps(), 2);
        Check.due("run again", x.run(), OK);
        Check.due("steps of the new run alone", x.steps(), 2);
    }

    private static void depth() {
        MonoShop x = new MonoShop();
        Check.defined(x, 0, 1, "if less v0 1 0 add 1 c0 add v0 -1");
        Check.ran(x, "c0 19", OK, 20, "19");
        Check.ran(x, "add c0 19 c0 19", OK, 40, "38");
        Check.ran(x, "c0 20", MonoShop.DEPTH, 21, "");
        Check.ran(x, "add c0 19 c0 20", MonoShop.DEPTH, 41, "");
        Check.ran(x, "app lam c0 v0 18", OK, 20, "18");
        Check.ran(x, "app lam c0 v0 19", MonoShop.DEPTH, 21, "");
        // The last call of a body is at work no shorter than any other.
        Check.defined(x, 1, 1, "if less v0 1 0 c1 add v0 -1");
        Check.ran(x, "c1 19", OK, 20, "0");
        Check.ran(x, "c1 20", MonoShop.DEPTH, 21, "");
        // Operands are worked out before the step is at work.
        Check.ran(x, "c1 add 1 c1 19", OK, 22, "0");
        Check.defined(x, 2, 1, "lam app v0 v1");
        Check.ran(x, "app c2 c2 c2 c2 c2 c2 c2 c2 lam v0 5", OK, 17, "5");
    }

    private static void twoCallsEach(MonoShop x) {
        // Takes 2 to the power of n + 1, less 1, steps.
        Check.defined(x, 0, 1, "if less v0 1 0 let c0 add v0 -1 c0 add v0 -1");
        Check.defined(x, 1, 1, "c1 v0");
    }

    private static void tooLong() {
        MonoShop x = new MonoShop();
        twoCallsEach(x);
        Check.ran(x, "c0 6", OK, 127, "0");
        Check.ran(x, "c0 7", MonoShop.LONG, 200, "");
        Check.ran(x, "add c0 6 add c0 5 add c0 2 c0 1", OK, 200, "0");
        Check.ran(x, "add c0 6 add c0 5 add c0 2 add c0 1 c0 0", MonoShop.LONG, 200, "");
        Check.ran(x, "add c0 6 add c0 5 add c0 2 add c0 1 app lam v0 1", MonoShop.LONG, 200, "");
        Check.ran(x, "c0 1", OK, 3, "0");
    }

    private static void longBeforeDepth() {
        MonoShop x = new MonoShop();
        twoCallsEach(x);
        Check.ran(x, "add c0 6 add c0 4 add c0 3 add c0 2 c1 1", MonoShop.LONG, 200, "");
        Check.ran(x, "add c0 6 add c0 4 add c0 3 add c0 1 add c0 1 c1 1", MonoShop.DEPTH, 200, "");
    }

    private static void sevenEach(MonoShop x) {
        Check.defined(x, 0, 2, "if less v0 1 v1 c0 add v0 -1 " + "cons v0 ".repeat(7) + "v1");
        Check.defined(x, 1, 1, "c1 v0");
    }

    private static void fullOfConses() {
        MonoShop x = new MonoShop();
        sevenEach(x);
        StringBuilder value = new StringBuilder("200 1 2 3 4");
        for (int n = 1; n <= 10; n++) {
            value.append((" " + n).repeat(7));
        }
        for (int n = 1; n <= 18; n++) {
            value.append((" " + n).repeat(7));
        }
        Check.ran(x, "cons 1 cons 2 cons 3 cons 4 c0 10 c0 18 nil", OK, 30, value.toString());
        Check.ran(x, "cons 0 cons 1 cons 2 cons 3 cons 4 c0 10 c0 18 nil", MonoShop.FULL, 30, "");
        Check.ran(x, "let cons 1 cons 2 cons 3 cons 4 c0 10 c0 18 nil cons true nil", MonoShop.FULL, 30, "");
        Check.ran(x, "let cons 1 cons 2 cons 3 cons 4 c0 10 c0 18 nil nil", OK, 30, "0");
    }

    private static void fullOfClosures() {
        MonoShop x = new MonoShop();
        Check.defined(x, 0, 1, "if less v0 1 0 let lam v1 c0 add v0 -1");
        Check.ran(x, "let lam v0 let lam v1 add c0 19 c0 19", OK, 40, "0");
        Check.ran(x, "let lam v0 let lam v1 let lam v2 add c0 19 c0 19", MonoShop.FULL, 39, "");
        Check.ran(x, "let lam v0 let lam v1 pair add c0 19 c0 19 lam v2", MonoShop.FULL, 40, "");
        Check.ran(x, "let lam v0 let lam v1 pair add c0 19 c0 19 nil", OK, 40, "0 0");
    }

    private static void faultsInOrder() {
        MonoShop x = new MonoShop();
        sevenEach(x);
        String full = "cons 1 cons 2 cons 3 cons 4 c0 10 c0 18 nil";
        Check.ran(x, "let " + full + " cons c1 1 nil", MonoShop.DEPTH, 51, "");
        Check.ran(x, "let " + full + " cons 1 c1 nil", MonoShop.DEPTH, 51, "");
        Check.ran(x, "add c1 1 case cons 0 " + full + " 1 2", MonoShop.DEPTH, 21, "");
        Check.ran(x, "add case cons 0 " + full + " 1 2 c1 1", MonoShop.FULL, 30, "");
    }

    private static void latestRun() {
        MonoShop x = new MonoShop();
        Check.defined(x, 0, 1, "c0 v0");
        Check.defined(x, 1, 1, "first pair v0 pair v0 v0");
        Check.defined(x, 2, 0, "c1 pair 1 pair 2 3");
        Check.ran(x, "c1 8", OK, 1, "8");
        Check.made(x, "c0 1");
        Check.due("value after a make", Check.valueOf(x), "8");
        Check.due("steps after a make", x.steps(), 1);
        Check.due("run", x.run(), MonoShop.DEPTH);
        Check.due("value after DEPTH", x.value(0), Check.NOTHING);
        Check.ran(x, "c1 9", OK, 1, "9");
        Check.due("make", x.make(2), MonoShop.LARGE);
        Check.due("run", x.run(), MonoShop.BAD);
        Check.due("value after BAD", x.value(0), Check.NOTHING);
        Check.due("steps after BAD", x.steps(), 0);
    }

    private static void writtenOut() {
        MonoShop x = new MonoShop();
        Check.ran(x, "pair 1 cons true nil", OK, 0, "1 1 1");
        int[] outside = {-1, 3, 399, 400, 401, Integer.MIN_VALUE, Integer.MAX_VALUE};
        for (int k : outside) {
            Check.due("value " + k, x.value(k), Check.NOTHING);
        }
        Check.defined(x, 0, 2, "if less v0 1 v1 c0 add v0 -1 cons pair v0 true cons pair v0 true cons pair v0 true v1");
        Check.made(x, "c0 18 c0 18 c0 18 nil");
        Check.due("run", x.run(), OK);
        Check.due("how many", x.value(0), 162);
        Check.due("number 324", x.value(324), 1);
        Check.due("number 325", x.value(325), Check.NOTHING);
        Check.defined(x, 1, 1, "cons v0 ".repeat(11) + "nil");
        Check.made(x, "c1 c1 c1 c1 c1 c1 c1 7");
        Check.due("run", x.run(), OK);
        Check.due("number 7", x.value(7), 7);
        Check.due("number 18", x.value(18), 11);
        Check.due("number 399", x.value(399) != Check.NOTHING, true);
        Check.due("number 400", x.value(400), Check.NOTHING);
        exactlyFourHundred(x);
    }

    private static void exactlyFourHundred(MonoShop x) {
        // Function 2 writes out as 1 + 18 * 7 numbers, 127; three of them are 381, and 19 more are in the pairs.
        Check.defined(x, 2, 2, "if less v0 1 v1 c2 add v0 -1 " + "cons v0 ".repeat(7) + "v1");
        String three = "let c2 18 nil pair v0 pair v0 pair v0 ";
        Check.defined(x, 3, 0, "c2 2 cons 1 cons 2 cons 3 cons 4 nil");
        Check.ran(x, three + "c3", OK, 23, threeTimes() + " 18" + " 1".repeat(7) + " 2".repeat(7) + " 1 2 3 4");
        Check.due("number 399", x.value(399), 4);
        Check.due("number 400", x.value(400), Check.NOTHING);
        Check.defined(x, 3, 0, "c2 2 cons 1 cons 2 cons 3 cons 4 cons 5 nil");
        Check.ran(x, three + "c3", OK, 23, threeTimes() + " 19" + " 1".repeat(7) + " 2".repeat(7) + " 1 2 3 4");
    }

    private static String threeTimes() {
        StringBuilder one = new StringBuilder("126");
        for (int n = 1; n <= 18; n++) {
            one.append((" " + n).repeat(7));
        }
        return one + " " + one + " " + one;
    }
}
