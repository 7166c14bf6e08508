/** Promise 11. The sentences stand above the tests. */
public final class ValueTest {
    private static final int OK = MonoShop.OK;
    /** Gives a list 7 n elements more: n of them seven times, the least first. */
    private static final String SEVEN = "if less v0 1 v1 c0 add v0 -1 " + "cons v0 ".repeat(7) + "v1";

    public static void main(String[] args) {
        ofInt();
        ofBool();
        ofPair();
        ofList();
        ofArrow();
        edgesOfTheNumbers();
        fourHundred();
        aboveFourHundred();
        fourHundredInSeveralParts();
        farAboveFourHundred();
        noneBefore();
        noneIfNotOk();
        latestRun();
        Check.end();
    }

    private static void written(String body, String value) {
        Shop x = new Shop();
        Check.made(x, body);
        Check.due("run of " + body, x.run(), OK);
        Check.due("value of " + body, Check.valueOf(x), value);
    }

    /** INT: itself, as a long. */
    private static void ofInt() {
        written("0", "0");
        written("-1", "-1");
        written("2147483647", "2147483647");
        written("-2147483648", "-2147483648");
    }

    /** BOOL: 0 or 1. */
    private static void ofBool() {
        written("true", "1");
        written("false", "0");
        written("less 1 2", "1");
        written("less 2 2", "0");
    }

    /** PAIR: its parts. */
    private static void ofPair() {
        written("pair 5 true", "5 1");
        written("pair pair 1 2 pair 3 4", "1 2 3 4");
        written("pair nil nil", "0 0");
        written("pair cons 1 nil pair cons 2 cons 3 nil 4", "1 1 2 2 3 4");
        written(Check.pairs(7, "-1"), "-1 -1 -1 -1 -1 -1 -1");
    }

    /** LIST: how many, then each of them. */
    private static void ofList() {
        written("nil", "0");
        written("cons 3 nil", "1 3");
        written("cons 3 cons 4 nil", "2 3 4");
        written("cons nil nil", "1 0");
        written("cons nil cons cons true nil nil", "2 0 1 1");
        written("cons cons nil nil nil", "1 1 0");
        written("cons pair 1 true cons pair 2 false nil", "2 1 1 2 0");
    }

    /** ARROW: 0. */
    private static void ofArrow() {
        written("lam v0", "0");
        written("pair lam v0 5", "0 5");
        written("pair 5 lam lam 7", "5 0");
        written("cons lam v0 cons lam 1 nil", "2 0 0");
        written("cons lam v0 nil", "1 0");
    }

    /** 4294967296 if there is none: before the first number and behind the last. */
    private static void edgesOfTheNumbers() {
        Shop x = new Shop();
        Check.ran(x, "pair 1 cons true nil", OK, 0, "1 1 1");
        Check.due("number 0", x.value(0), 1L);
        Check.due("number 2, the last", x.value(2), 1L);
        int[] none = {-1, 3, 4, 399, 400, 401, Integer.MIN_VALUE, Integer.MAX_VALUE};
        for (int k : none) {
            Check.due("number " + k, x.value(k), 4294967296L);
        }
        // A shorter value leaves nothing of the longer one before.
        Check.ran(x, "9", OK, 0, "9");
        Check.due("number 1", x.value(1), 4294967296L);
    }

    private static String sevenTimes(int n) {
        StringBuilder all = new StringBuilder();
        for (int i = 1; i <= n; i++) {
            all.append((" " + i).repeat(7));
        }
        return all.toString();
    }

    /** Three lists of 126, with 381 numbers in all, then one of 14 and those that are given. */
    private static Shop threeListsAnd(String elements) {
        Shop x = new Shop();
        Check.defined(x, 0, 2, SEVEN);
        Check.made(x, "let c0 18 nil pair v0 pair v0 pair v0 c0 2 " + elements);
        Check.due("run", x.run(), OK);
        return x;
    }

    /** Number k of the first 400 of these: 400 numbers in all. */
    private static void fourHundred() {
        Shop x = threeListsAnd("cons 31 cons 32 cons 33 cons 34 nil");
        String list = "126" + sevenTimes(18);
        Check.due("400 numbers", Check.valueOf(x),
            list + " " + list + " " + list + " 18" + sevenTimes(2) + " 31 32 33 34");
        Check.due("number 399, the last", x.value(399), 34);
        Check.due("number 400", x.value(400), Check.NOTHING);
        Shop y = threeListsAnd("cons 31 cons 32 cons 33 nil");
        Check.due("number 398, the last of 399", y.value(398), 33);
        Check.due("number 399 of 399", y.value(399), Check.NOTHING);
        Check.due("number 400 of 399", y.value(400), Check.NOTHING);
    }

    /** Number k of the first 400 of these: 401 numbers, and the last one isn't there. */
    private static void aboveFourHundred() {
        Shop x = threeListsAnd("cons 31 cons 32 cons 33 cons 34 cons 35 nil");
        Check.due("number 381, how many", x.value(381), 19);
        Check.due("number 399", x.value(399), 34);
        Check.due("number 400", x.value(400), Check.NOTHING);
        Check.due("number 401", x.value(401), Check.NOTHING);
        Check.due("steps", x.steps(), 22);
    }

    /** The 400th number may be any: here one of how many a list has, here a part of a PAIR. */
    private static void fourHundredInSeveralParts() {
        Shop x = new Shop();
        Check.defined(x, 0, 2, SEVEN);
        Check.defined(x, 1, 0, "c0 18 nil");
        Check.defined(x, 2, 0, "c0 2 cons 1 cons 2 cons 3 nil");
        // 1 + 3 * 127 + 18 numbers are 400.
        Check.made(x, "let c1 cons v0 cons v0 cons v0 cons c2 cons cons 77 nil nil");
        Check.due("run", x.run(), OK);
        Check.due("number 0", x.value(0), 5);
        Check.due("number 399, the last element of the fourth", x.value(399), 3);
        Check.due("number 400", x.value(400), Check.NOTHING);
        // 3 * 127 + 18 numbers are 399.
        Check.made(x, "let c1 pair v0 pair v0 pair v0 pair c2 cons 77 nil");
        Check.due("run", x.run(), OK);
        Check.due("number 398, the last element of the fourth", x.value(398), 3);
        Check.due("number 399, how many are in the fifth", x.value(399), 1);
        Check.due("number 400", x.value(400), Check.NOTHING);
        Check.defined(x, 3, 0, "c0 2 cons 1 cons 2 nil");
        // 1 + 3 * 127 + 17 numbers are 399.
        Check.made(x, "let c1 pair cons v0 cons v0 cons v0 nil pair c3 pair 88 99");
        Check.due("run", x.run(), OK);
        Check.due("number 399, the first part of a PAIR", x.value(399), 88);
        Check.due("number 400, its second part", x.value(400), Check.NOTHING);
    }

    /** A value of more numbers than can be counted is no fault. */
    private static void farAboveFourHundred() {
        Shop x = new Shop();
        Check.defined(x, 1, 1, "cons v0 ".repeat(11) + "nil");
        Check.made(x, "c1 c1 c1 c1 c1 c1 c1 7");
        Check.due("run", x.run(), OK);
        Check.due("number 6, of the innermost list", x.value(6), 11);
        Check.due("number 7", x.value(7), 7);
        Check.due("number 18", x.value(18), 11);
        Check.due("number 399", x.value(399), 7);
        Check.due("number 400", x.value(400), Check.NOTHING);
    }

    private static void noneBefore() {
        Shop x = new Shop();
        Check.due("value of a new object", x.value(0), Check.NOTHING);
        Check.made(x, "7");
        Check.due("value, made but not run", x.value(0), Check.NOTHING);
        Check.due("run", x.run(), OK);
        Check.due("value", x.value(0), 7);
    }

    /** 4294967296 if the latest run was not OK. */
    private static void noneIfNotOk() {
        String[] bodies = {"c1", "c0 19", "c2 nil", "1"};
        int[] answers = {MonoShop.DEPTH, MonoShop.LONG, MonoShop.FULL, MonoShop.BAD};
        for (int i = 0; i < bodies.length; i++) {
            Shop x = new Shop();
            Check.defined(x, 0, 1, "if less v0 1 0 let c0 add v0 -1 c0 add v0 -1");
            Check.defined(x, 1, 0, "c1");
            Check.defined(x, 2, 1, "c2 " + "cons 1 ".repeat(11) + "v0");
            Check.defined(x, 3, 1, "first pair v0 1");
            Check.ran(x, "pair 7 8", OK, 0, "7 8");
            if (answers[i] == MonoShop.BAD) {
                Check.defined(x, 4, 0, "c3 " + Check.pairs(7, "1"));
                Check.due("make", x.make(4), MonoShop.LARGE);
            } else {
                Check.made(x, bodies[i]);
            }
            Check.due("value before the next run", Check.valueOf(x), "7 8");
            Check.due("run of " + bodies[i], x.run(), answers[i]);
            Check.due("value of " + bodies[i], x.value(0), Check.NOTHING);
            Check.due("value of " + bodies[i], x.value(1), Check.NOTHING);
            Check.ran(x, "pair 9 8", OK, 0, "9 8");
        }
    }

    /** The latest run: no other call changes its value. */
    private static void latestRun() {
        Shop x = new Shop();
        Check.ran(x, "cons 8 nil", OK, 0, "1 8");
        Check.draft(x, "pair true cons 5 nil");
        Check.due("value with a draft", Check.valueOf(x), "1 8");
        Check.due("define", x.define(4, 0), OK);
        Check.due("value after define", Check.valueOf(x), "1 8");
        Check.due("make", x.make(4), OK);
        Check.due("value after make", Check.valueOf(x), "1 8");
        Check.due("make", x.make(0), MonoShop.BAD);
        Check.due("value after a BAD make", Check.valueOf(x), "1 8");
        Check.due("run", x.run(), OK);
        Check.due("value after the next run", Check.valueOf(x), "1 1 5");
    }
}
