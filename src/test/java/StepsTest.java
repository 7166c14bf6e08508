/** Promise 10. The sentences stand above the tests. */
public final class StepsTest {
    private static final int OK = MonoShop.OK;

    public static void main(String[] args) {
        howMany();
        atLong();
        atDepth();
        atFull();
        noneBefore();
        noneAfterBad();
        latestRun();
        Check.end();
    }

    private static void took(Shop x, String body, int answer, int steps) {
        Check.made(x, body);
        Check.due("run of " + body, x.run(), answer);
        Check.due("steps of " + body, x.steps(), steps);
    }

    /** How many STEPS the latest run took. */
    private static void howMany() {
        Shop x = new Shop();
        Check.defined(x, 0, 0, "3");
        took(x, "3", OK, 0);
        took(x, "lam c0", OK, 0);
        took(x, "c0", OK, 1);
        took(x, "app lam v0 1", OK, 1);
        took(x, "app lam c0 1", OK, 2);
        took(x, "let c0 add v0 v0", OK, 1);
        took(x, "add c0 c0", OK, 2);
        took(x, "if less c0 4 c0 add c0 c0", OK, 2);
        Check.due("steps, asked again", x.steps(), 2);
    }

    private static void twice(Shop x) {
        // Takes 2 to the power of n + 1, less 1, steps.
        Check.defined(x, 0, 1, "if less v0 1 0 let c0 add v0 -1 c0 add v0 -1");
    }

    /** 200 at LONG. */
    private static void atLong() {
        Shop x = new Shop();
        twice(x);
        took(x, "add c0 6 add c0 5 add c0 2 add c0 0 c0 0", OK, 199);
        took(x, "add c0 6 add c0 5 add c0 2 c0 1", OK, 200);
        took(x, "add c0 6 add c0 5 add c0 2 add c0 1 c0 0", MonoShop.LONG, 200);
        took(x, "add c0 6 c0 6", MonoShop.LONG, 200);
        took(x, "c0 19", MonoShop.LONG, 200);
    }

    /** The STEP that is one too deep is taken, and counts. */
    private static void atDepth() {
        Shop x = new Shop();
        twice(x);
        Check.defined(x, 1, 0, "c1");
        took(x, "c1", MonoShop.DEPTH, 21);
        took(x, "add c0 0 c1", MonoShop.DEPTH, 22);
        took(x, "add c0 6 add c0 4 add c0 3 add c0 1 add c0 1 c1", MonoShop.DEPTH, 200);
    }

    /** Those before a CONS or LAM too many count. */
    private static void atFull() {
        Shop x = new Shop();
        Check.defined(x, 0, 1, "if less v0 1 0 let lam v1 c0 add v0 -1");
        took(x, "add c0 19 add c0 19 c0 2", OK, 43);
        took(x, "add c0 19 add c0 19 c0 3", MonoShop.FULL, 43);
        took(x, "add c0 19 add c0 19 c0 4", MonoShop.FULL, 43);
    }

    /** 0 if there was none. */
    private static void noneBefore() {
        Shop x = new Shop();
        Check.due("steps of a new object", x.steps(), 0);
        Check.defined(x, 0, 0, "3");
        Check.made(x, "c0");
        Check.due("steps, made but not run", x.steps(), 0);
        Check.due("run", x.run(), OK);
        Check.due("steps, run", x.steps(), 1);
    }

    /** 0 if it was BAD. */
    private static void noneAfterBad() {
        Shop x = new Shop();
        Check.due("run", x.run(), MonoShop.BAD);
        Check.due("steps after BAD alone", x.steps(), 0);
        Check.defined(x, 0, 1, "first pair v0 1");
        took(x, "c0 1", OK, 1);
        Check.defined(x, 1, 0, "c0 " + Check.pairs(7, "1"));
        Check.due("make", x.make(1), MonoShop.LARGE);
        Check.due("steps before the next run", x.steps(), 1);
        Check.due("run", x.run(), MonoShop.BAD);
        Check.due("steps after OK and BAD", x.steps(), 0);
    }

    /** The latest run: no other call changes what it took. */
    private static void latestRun() {
        Shop x = new Shop();
        Check.defined(x, 0, 1, "v0");
        took(x, "c0 c0 c0 1", OK, 3);
        Check.draft(x, "c0 1");
        Check.due("steps with a draft", x.steps(), 3);
        Check.due("define", x.define(4, 0), OK);
        Check.due("steps after define", x.steps(), 3);
        Check.due("make", x.make(4), OK);
        Check.due("steps after make", x.steps(), 3);
        Check.due("make", x.make(0), MonoShop.BAD);
        Check.due("steps after a BAD make", x.steps(), 3);
        Check.due("run", x.run(), OK);
        Check.due("steps after the next run", x.steps(), 1);
        Check.due("run", x.run(), OK);
        Check.due("steps after the same run again", x.steps(), 1);
    }
}
