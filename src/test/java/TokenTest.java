/** Promise 2. The sentences stand above the tests. */
public final class TokenTest {
    private static final int VAR = 3;
    private static final int CALL = 4;

    public static void main(String[] args) {
        appends();
        kindOutside();
        valueOfVar();
        valueOfCall();
        valueOfOthers();
        twentyFour();
        twentyFourAgain();
        wrongWithTwentyFour();
        Check.end();
    }

    /** Appends a token to the draft. */
    private static void appends() {
        Shop x = new Shop();
        Check.ran(x, "pair 1 pair 2 3", MonoShop.OK, 0, "1 2 3");
        Check.draft(x, "less 4");
        Check.due("instances, with a draft", x.instances(), 1);
        Check.due("run, with a draft", x.run(), MonoShop.OK);
        Check.due("place, with a draft", x.place(), -1);
        Check.draft(x, "5");
        Check.due("define", x.define(0, 0), MonoShop.OK);
        Check.due("type", Check.typeOf(x, 0), "1");
    }

    /** The draft is "7" alone, whatever was refused before and behind it. */
    private static void holdsSevenAlone(Shop x) {
        Check.due("define", x.define(4, 0), MonoShop.OK);
        Check.due("make", x.make(4), MonoShop.OK);
        Check.runs(x, "7 between refused tokens", MonoShop.OK, 0, "7");
    }

    /** False if kind is outside 0..16. */
    private static void kindOutside() {
        for (int kind = 0; kind <= 16; kind++) {
            Shop x = new Shop();
            Check.due("kind " + kind, x.token(kind, 0), true);
        }
        Shop first = new Shop();
        Check.due("kind 0", first.token(0, 7), true);
        holdsSevenAlone(first);
        Shop last = new Shop();
        Check.due("kind 16", last.token(16, 0), true);
        Check.draft(last, "lam v0 7");
        Check.due("define", last.define(4, 0), MonoShop.OK);
        Check.due("make", last.make(4), MonoShop.OK);
        Check.runs(last, "an APP", MonoShop.OK, 1, "7");
        int[] outside = {-1, 17, 18, -17, 32, Integer.MIN_VALUE, Integer.MAX_VALUE};
        for (int kind : outside) {
            Shop x = new Shop();
            Check.due("kind " + kind, x.token(kind, 0), false);
            Check.draft(x, "7");
            Check.due("kind " + kind, x.token(kind, 0), false);
            holdsSevenAlone(x);
        }
    }

    /** False if value is outside 0..9 for VAR. */
    private static void valueOfVar() {
        String ten = "let 10 let 11 let 12 let 13 let 14 let 15 let 16 let 17 let 18 let 19 ";
        for (int k = 0; k <= 9; k++) {
            Shop x = new Shop();
            Check.draft(x, ten);
            Check.due("VAR " + k, x.token(VAR, k), true);
            Check.due("define", x.define(4, 0), MonoShop.OK);
            Check.due("make", x.make(4), MonoShop.OK);
            Check.runs(x, "VAR " + k, MonoShop.OK, 0, "" + (10 + k));
        }
        refusedValues(VAR, 10);
    }

    private static void refusedValues(int kind, int first) {
        int[] outside = {-1, first, first + 1, 1 << 8, 1 << 16, Integer.MIN_VALUE, Integer.MAX_VALUE};
        for (int value : outside) {
            Shop x = new Shop();
            Check.due("kind " + kind + " with " + value, x.token(kind, value), false);
            Check.draft(x, "7");
            Check.due("kind " + kind + " with " + value, x.token(kind, value), false);
            holdsSevenAlone(x);
        }
    }

    /** False if value is outside 0..4 for CALL. */
    private static void valueOfCall() {
        for (int g = 0; g <= 4; g++) {
            Shop x = new Shop();
            Check.defined(x, g, 0, "true");
            Check.due("CALL " + g, x.token(CALL, g), true);
            Check.due("define", x.define((g + 1) % 5, 0), MonoShop.OK);
            Check.due("type", Check.typeOf(x, (g + 1) % 5), "1");
        }
        refusedValues(CALL, 5);
    }

    /** Value is looked at for 0, 3, 4: the others' may be anything, and a VAR's and a CALL's edges are not theirs. */
    private static void valueOfOthers() {
        int[] edges = {Integer.MIN_VALUE, -1, 0, 4, 5, 9, 10, Integer.MAX_VALUE};
        for (int value : edges) {
            for (int kind = 0; kind <= 16; kind++) {
                Shop x = new Shop();
                boolean due = kind == VAR ? value >= 0 && value <= 9 : kind != CALL || value >= 0 && value <= 4;
                Check.due("kind " + kind + " with " + value, x.token(kind, value), due);
            }
            Shop x = new Shop();
            x.token(5, value);
            x.token(1, value);
            x.token(5, value);
            x.token(8, value);
            x.token(0, value);
            Check.due("define", x.define(4, 0), MonoShop.OK);
            Check.due("make", x.make(4), MonoShop.OK);
            Check.runs(x, "tokens with " + value, MonoShop.OK, 0, "1 0 " + value);
        }
    }

    /** False if there are 24. */
    private static void twentyFour() {
        Shop x = new Shop();
        Check.draft(x, "second pair true " + "add 1 ".repeat(10));
        Check.due("token 23, the 24th", x.token(0, 5), true);
        Check.due("token 24, the 25th", x.token(0, 6), false);
        Check.due("define", x.define(4, 0), MonoShop.OK);
        Check.due("make", x.make(4), MonoShop.OK);
        Check.runs(x, "24 tokens", MonoShop.OK, 0, "15");
        Check.draft(x, "add ".repeat(23));
        Check.due("define with 23", x.define(4, 0), MonoShop.SHAPE);
        Check.due("place with 23", x.place(), 23);
        Check.draft(x, "add ".repeat(24));
        Check.due("a 25th", x.token(12, 0), false);
        Check.due("define with 24", x.define(4, 0), MonoShop.SHAPE);
        Check.due("place with 24", x.place(), 24);
    }

    /** A define makes room for 24 again, a BAD one makes none. */
    private static void twentyFourAgain() {
        Shop x = new Shop();
        Check.draft(x, "add ".repeat(24));
        Check.due("BAD", x.define(-1, 0), MonoShop.BAD);
        Check.due("a 25th after BAD", x.token(0, 1), false);
        Check.due("SHAPE", x.define(0, 0), MonoShop.SHAPE);
        Check.draft(x, "first ".repeat(23) + "1");
        Check.due("a 25th", x.token(0, 1), false);
        Check.due("TYPE", x.define(0, 0), MonoShop.TYPE);
        Check.due("place", x.place(), 23);
    }

    /** A refused token takes no room, and with 24 there is no room for any. */
    private static void wrongWithTwentyFour() {
        Shop x = new Shop();
        Check.draft(x, "add ".repeat(23));
        Check.due("kind 17 as the 24th", x.token(17, 0), false);
        Check.due("VAR 10 as the 24th", x.token(VAR, 10), false);
        Check.due("CALL 5 as the 24th", x.token(CALL, 5), false);
        Check.due("the 24th", x.token(1, 0), true);
        for (int kind = -1; kind <= 17; kind++) {
            Check.due("kind " + kind + " as the 25th", x.token(kind, 0), false);
        }
        Check.due("define", x.define(0, 0), MonoShop.SHAPE);
        Check.due("place", x.place(), 24);
    }
}
