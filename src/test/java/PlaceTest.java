/** Promise 4. */
public final class PlaceTest {
    public static void main(String[] args) {
        MonoShop x = new MonoShop();
        Check.due("place of a new object", x.place(), -1);
        Check.due("SHAPE", Check.define(x, 0, 0, "add 1"), MonoShop.SHAPE);
        Check.due("place after SHAPE, with tokens missing", x.place(), 2);
        Check.due("SHAPE", Check.define(x, 0, 0, "1 1 1"), MonoShop.SHAPE);
        Check.due("place after SHAPE", x.place(), 1);
        stays(x, 1);
        Check.due("UNBOUND", Check.define(x, 0, 0, "add 1 v3"), MonoShop.UNBOUND);
        Check.due("place after UNBOUND", x.place(), 2);
        Check.due("TYPE", Check.define(x, 0, 0, "add add 1 2 true"), MonoShop.TYPE);
        Check.due("place after TYPE", x.place(), 4);
        stays(x, 4);
        Check.due("OK", Check.define(x, 1, 0, "6"), MonoShop.OK);
        Check.due("place after OK", x.place(), -1);
        stays(x, -1);
        Check.due("UNBOUND", Check.define(x, 0, 0, "v0"), MonoShop.UNBOUND);
        Check.due("place after UNBOUND of the first token", x.place(), 0);
        String seven = "pair pair 1 2 pair pair 3 4 pair 5 pair 6 7";
        Check.due("LARGE", Check.define(x, 0, 0, "cons cons " + seven + " nil nil"), MonoShop.LARGE);
        Check.due("place after LARGE", x.place(), -1);
        Check.end();
    }

    /** What is no define, or a BAD one, leaves the place. */
    private static void stays(MonoShop x, int place) {
        Check.due("BAD", x.define(5, 0), MonoShop.BAD);
        Check.due("place after BAD", x.place(), place);
        x.make(1);
        x.run();
        x.type(1, 0);
        Check.due("place after other calls", x.place(), place);
    }
}
