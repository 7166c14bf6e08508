/** Promise 4. The sentences stand above the tests. */
public final class PlaceTest {
    public static void main(String[] args) {
        ofANewObject();
        afterShape();
        afterUnbound();
        afterType();
        elseNothing();
        latestThatWasNotBad();
        otherCallsLeaveIt();
        Check.end();
    }

    private static void said(Shop x, String body, int answer, int place) {
        Check.due("define as " + body, Check.define(x, 0, 0, body), answer);
        Check.due("place after " + body, x.place(), place);
    }

    private static void ofANewObject() {
        Shop x = new Shop();
        Check.due("place of a new object", x.place(), -1);
        Check.due("BAD", x.define(5, 0), MonoShop.BAD);
        Check.due("place after BAD alone", x.place(), -1);
    }

    /** The token said there (for SHAPE perhaps their number). */
    private static void afterShape() {
        Shop x = new Shop();
        said(x, "", MonoShop.SHAPE, 0);
        said(x, "add", MonoShop.SHAPE, 1);
        said(x, "add 1", MonoShop.SHAPE, 2);
        said(x, "1 1 1", MonoShop.SHAPE, 1);
        said(x, "add 1 1 1", MonoShop.SHAPE, 3);
        said(x, "add ".repeat(24), MonoShop.SHAPE, 24);
        said(x, "add 1 ".repeat(11) + "1 1", MonoShop.SHAPE, 23);
    }

    private static void afterUnbound() {
        Shop x = new Shop();
        said(x, "v0", MonoShop.UNBOUND, 0);
        said(x, "add 1 v3", MonoShop.UNBOUND, 2);
        said(x, "c1", MonoShop.UNBOUND, 0);
        said(x, "let 1 ".repeat(11) + "1", MonoShop.UNBOUND, 20);
        said(x, "lam " + "add 1 ".repeat(11) + "v1", MonoShop.UNBOUND, 23);
    }

    private static void afterType() {
        Shop x = new Shop();
        said(x, "first 1", MonoShop.TYPE, 1);
        said(x, "add add 1 2 true", MonoShop.TYPE, 4);
        said(x, "lam " + "add 1 ".repeat(11) + "true", MonoShop.TYPE, 23);
    }

    /** Else -1. */
    private static void elseNothing() {
        Shop x = new Shop();
        said(x, "v0", MonoShop.UNBOUND, 0);
        said(x, Check.pairs(8, "1"), MonoShop.LARGE, -1);
        said(x, "v0", MonoShop.UNBOUND, 0);
        said(x, Check.pairs(7, "1"), MonoShop.OK, -1);
        said(x, "add true 1", MonoShop.TYPE, 1);
        said(x, "1", MonoShop.OK, -1);
    }

    /** Of the latest define that was not BAD. */
    private static void latestThatWasNotBad() {
        String[] bodies = {"add 1", "v0", "first 1", Check.pairs(8, "1"), "1"};
        int[] answers = {MonoShop.SHAPE, MonoShop.UNBOUND, MonoShop.TYPE, MonoShop.LARGE, MonoShop.OK};
        int[] places = {2, 0, 1, -1, -1};
        for (int i = 0; i < bodies.length; i++) {
            Shop x = new Shop();
            said(x, "1 1", MonoShop.SHAPE, 1);
            said(x, bodies[i], answers[i], places[i]);
            Check.draft(x, "add add");
            int[][] outside = {{-1, 0}, {5, 0}, {0, -1}, {0, 3}};
            for (int[] pair : outside) {
                Check.due("BAD", x.define(pair[0], pair[1]), MonoShop.BAD);
                Check.due("place after BAD", x.place(), places[i]);
            }
            // Whichever function it is of.
            Check.due("SHAPE", x.define(3, 2), MonoShop.SHAPE);
            Check.due("place after SHAPE", x.place(), 2);
        }
    }

    private static void otherCallsLeaveIt() {
        int[] places = {1, -1};
        for (int place : places) {
            Shop x = new Shop();
            Check.defined(x, 1, 0, "6");
            said(x, place == -1 ? "6" : "first 6", place == -1 ? MonoShop.OK : MonoShop.TYPE, place);
            Check.due("token", x.token(0, 1), true);
            Check.due("a refused token", x.token(17, 1), false);
            Check.due("make", x.make(1), MonoShop.OK);
            Check.due("a BAD make", x.make(2), MonoShop.BAD);
            Check.due("run", x.run(), MonoShop.OK);
            Check.due("type", x.type(1, 0), 0);
            Check.due("place after other calls", x.place(), place);
            Check.due("place, asked again", x.place(), place);
        }
    }
}
