/** Promise 1, and the constants of the face. */
public final class NewObjectTest {
    public static void main(String[] args) {
        constants();
        nothingIsThere();
        draftIsEmpty();
        objectsAreApart();
        Check.end();
    }

    private static void constants() {
        int[] constants = {MonoShop.OK, MonoShop.SHAPE, MonoShop.UNBOUND, MonoShop.TYPE, MonoShop.LARGE, MonoShop.LONG,
            MonoShop.DEPTH, MonoShop.FULL, MonoShop.BAD};
        Check.due("the constants", java.util.Arrays.toString(constants), "[0, 1, 2, 3, 4, 5, 6, 7, -1]");
    }

    private static void nothingIsThere() {
        MonoShop x = new MonoShop();
        Check.due("place", x.place(), -1);
        for (int f = -1; f <= 5; f++) {
            Check.due("type " + f, x.type(f, 0), -1);
            Check.due("make " + f, x.make(f), MonoShop.BAD);
        }
        Check.due("instances", x.instances(), 0);
        Check.due("instance", x.instance(0, 0), -1);
        Check.due("steps", x.steps(), 0);
        Check.due("value", x.value(0), Check.NOTHING);
        Check.due("run", x.run(), MonoShop.BAD);
        Check.due("steps after BAD", x.steps(), 0);
        Check.due("value after BAD", x.value(0), Check.NOTHING);
    }

    private static void draftIsEmpty() {
        MonoShop x = new MonoShop();
        Check.due("define with the first draft", x.define(0, 0), MonoShop.SHAPE);
        Check.due("place", x.place(), 0);
    }

    private static void objectsAreApart() {
        MonoShop x = new MonoShop();
        MonoShop y = new MonoShop();
        Check.ran(x, "7", MonoShop.OK, 0, "7");
        Check.due("type in the other object", Check.typeOf(y, 4), "");
        Check.due("run of the other object", y.run(), MonoShop.BAD);
    }
}
