/** Promise 7. The sentences stand above the tests. */
public final class InstancesTest {
    public static void main(String[] args) {
        howMany();
        latestThatWasNotBad();
        noneIfNotOk();
        whatIsMadeStays();
        whatIsMadeStaysWhenBodiesAreLost();
        Check.end();
    }

    /** How many instances: from one to twelve. */
    private static void howMany() {
        Shop x = new Shop();
        Check.due("instances of a new object", x.instances(), 0);
        for (int f = 0; f < 4; f++) {
            Check.defined(x, f, 1, "v0");
        }
        Check.made(x, "1");
        Check.due("instances", x.instances(), 1);
        Check.made(x, "c0 1");
        Check.due("instances", x.instances(), 2);
        Check.made(x, "pair c0 c1 c2 c3 1 pair c0 c1 c2 c3 true c0 c1 c2 nil");
        Check.due("instances", x.instances(), 12);
        Check.tooLarge(x, "pair c0 c1 c2 c3 1 pair c0 c1 c2 c3 true c0 c1 c2 c3 nil");
        Check.made(x, "c0 c1 1");
        Check.due("instances", x.instances(), 3);
    }

    /** The latest make that was not BAD. */
    private static void latestThatWasNotBad() {
        Shop x = new Shop();
        Check.defined(x, 0, 1, "v0");
        int[] bad = {-1, 0, 1, 5};
        for (int f : bad) {
            Check.due("make " + f, x.make(f), MonoShop.BAD);
            Check.due("instances after BAD alone", x.instances(), 0);
        }
        Check.makes(x, "c0 3", "4: 0, 0: 0 0");
        for (int f : bad) {
            Check.due("make " + f, x.make(f), MonoShop.BAD);
            Check.due("instances after OK and BAD", Check.instancesOf(x), "4: 0, 0: 0 0");
        }
        Check.runs(x, "what stayed", MonoShop.OK, 1, "3");
        Check.makes(x, "true", "4: 1");
    }

    /** 0 if it was not OK. */
    private static void noneIfNotOk() {
        Shop x = new Shop();
        Check.defined(x, 0, 1, "first pair v0 1");
        Check.defined(x, 1, 0, "c0 " + Check.pairs(7, "1"));
        Check.makes(x, "c0 3", "4: 0, 0: 0 0");
        Check.due("make", x.make(1), MonoShop.LARGE);
        Check.due("instances after LARGE", x.instances(), 0);
        Check.due("make", x.make(0), MonoShop.BAD);
        Check.due("instances after LARGE and BAD", x.instances(), 0);
        Check.due("make", x.make(4), MonoShop.OK);
        Check.due("instances after OK again", x.instances(), 2);
    }

    /** What was made stays, whatever is defined. */
    private static void whatIsMadeStays() {
        Shop x = new Shop();
        Check.defined(x, 0, 1, "add v0 1");
        Check.defined(x, 1, 2, "c0 add v0 v1");
        Check.makes(x, "c1 2 3", "4: 0, 1: 0 0 0, 0: 0 0");
        Check.defined(x, 0, 2, "pair v1 v0");
        Check.defined(x, 1, 0, "true");
        Check.refused(x, 4, 0, "c0", MonoShop.SHAPE, 1);
        Check.due("instances", Check.instancesOf(x), "4: 0, 1: 0 0 0, 0: 0 0");
        Check.runs(x, "what was made", MonoShop.OK, 2, "6");
        Check.due("make of a function whose body is lost", x.make(4), MonoShop.BAD);
        Check.runs(x, "what was made", MonoShop.OK, 2, "6");
        Check.due("make 1", x.make(1), MonoShop.OK);
        Check.due("instances of the new one", Check.instancesOf(x), "1: 1");
        Check.runs(x, "the new one", MonoShop.OK, 0, "1");
    }

    private static void whatIsMadeStaysWhenBodiesAreLost() {
        String[] bodies = {"add", "v2", "add true 1", Check.pairs(8, "1"), "lam v0"};
        for (String body : bodies) {
            Shop x = new Shop();
            Check.defined(x, 0, 2, "if less v0 1 v1 c0 add v0 -1 cons v0 v1");
            Check.makes(x, "c0 3 nil", "4: 3 0, 0: 0 3 0 3 0");
            Check.define(x, 0, 1, body);
            Check.due("make after " + body, x.make(4), MonoShop.BAD);
            Check.due("instances after " + body, Check.instancesOf(x), "4: 3 0, 0: 0 3 0 3 0");
            Check.runs(x, "what was made before " + body, MonoShop.OK, 4, "3 1 2 3");
        }
    }
}
