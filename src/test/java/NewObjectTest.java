/** Promise 1. The sentences stand above the tests. */
public final class NewObjectTest {
    public static void main(String[] args) {
        noFunctionHasABody();
        draftIsEmpty();
        draftHasRoomForTwentyFour();
        nothingIsMade();
        nothingWasDefinedOrRun();
        objectsAreApart();
        Check.end();
    }

    /** No function has a body. */
    private static void noFunctionHasABody() {
        for (int f = 0; f < 5; f++) {
            Shop x = new Shop();
            Check.due("type of " + f, x.type(f, 0), -1);
            Check.due("make " + f, x.make(f), MonoShop.BAD);
            Check.refused(x, (f + 1) % 5, 0, "c" + f, MonoShop.UNBOUND, 0);
            Check.refused(x, (f + 1) % 5, 0, "c" + f + " 1", MonoShop.SHAPE, 1);
            Check.typed(x, f, 0, "1", "0");
            Check.typed(x, (f + 1) % 5, 0, "c" + f, "0");
        }
    }

    /** The draft is empty. */
    private static void draftIsEmpty() {
        Shop x = new Shop();
        Check.due("define with the first draft", x.define(0, 0), MonoShop.SHAPE);
        Check.due("place", x.place(), 0);
        Shop y = new Shop();
        Check.ran(y, "6", MonoShop.OK, 0, "6");
    }

    private static void draftHasRoomForTwentyFour() {
        Shop x = new Shop();
        for (int i = 0; i < 24; i++) {
            Check.due("token " + i, x.token(12, 0), true);
        }
        Check.due("token 24", x.token(12, 0), false);
    }

    /** Nothing is made. */
    private static void nothingIsMade() {
        Shop x = new Shop();
        Check.due("instances", x.instances(), 0);
        Check.due("instance", x.instance(0, 0), -1);
        Check.due("run", x.run(), MonoShop.BAD);
        Check.defined(x, 4, 0, "6");
        Check.due("instances, with a body", x.instances(), 0);
        Check.due("run, with a body", x.run(), MonoShop.BAD);
        Check.due("make", x.make(4), MonoShop.OK);
        Check.due("instances, made", x.instances(), 1);
        Check.due("run, made", x.run(), MonoShop.OK);
    }

    private static void nothingWasDefinedOrRun() {
        Shop x = new Shop();
        Check.due("place", x.place(), -1);
        Check.due("steps", x.steps(), 0);
        Check.due("value", x.value(0), Check.NOTHING);
    }

    private static void objectsAreApart() {
        Shop x = new Shop();
        Shop y = new Shop();
        Check.draft(x, "7");
        Check.due("define in the other object", y.define(4, 0), MonoShop.SHAPE);
        Check.due("define", x.define(4, 0), MonoShop.OK);
        Check.due("make", x.make(4), MonoShop.OK);
        Check.due("run", x.run(), MonoShop.OK);
        Check.due("place of the other object", y.place(), 0);
        Check.due("type in the other object", y.type(4, 0), -1);
        Check.due("instances of the other object", y.instances(), 0);
        Check.due("run of the other object", y.run(), MonoShop.BAD);
        Check.due("value of the other object", y.value(0), Check.NOTHING);
        Check.due("value", x.value(0), 7);
    }
}
