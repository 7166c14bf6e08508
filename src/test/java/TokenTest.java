/** Promise 2. */
public final class TokenTest {
    public static void main(String[] args) {
        kinds();
        values();
        twentyFour();
        refusedTokensAreNotKept();
        Check.end();
    }

    private static void kinds() {
        MonoShop x = new MonoShop();
        for (int kind = -3; kind <= 20; kind++) {
            Check.due("kind " + kind, x.token(kind, 0), kind >= 0 && kind <= 16);
        }
        Check.due("least kind", x.token(Integer.MIN_VALUE, 0), false);
        Check.due("greatest kind", x.token(Integer.MAX_VALUE, 0), false);
    }

    private static void values() {
        int[] edges = {Integer.MIN_VALUE, -1, 0, 4, 5, 9, 10, Integer.MAX_VALUE};
        for (int value : edges) {
            for (int kind = 0; kind <= 16; kind++) {
                MonoShop x = new MonoShop();
                boolean due = kind == 3 ? value >= 0 && value <= 9 : kind == 4 ? value >= 0 && value <= 4 : true;
                Check.due("kind " + kind + " with " + value, x.token(kind, value), due);
            }
        }
    }

    private static void twentyFour() {
        MonoShop x = new MonoShop();
        for (int i = 0; i < 23; i++) {
            Check.due("token " + i, x.token(7, 0), true);
        }
        Check.due("a wrong one before the last", x.token(17, 0), false);
        Check.due("token 23", x.token(8, 0), true);
        Check.due("token 24", x.token(8, 0), false);
        Check.due("define", x.define(0, 0), MonoShop.TYPE);
        Check.due("place", x.place(), 23);
        Check.due("token after define", x.token(8, 0), true);
    }

    private static void refusedTokensAreNotKept() {
        MonoShop x = new MonoShop();
        x.token(17, 0);
        x.token(3, 10);
        x.token(0, Integer.MIN_VALUE);
        x.token(4, 5);
        x.token(-1, 0);
        Check.due("define", x.define(4, 0), MonoShop.OK);
        Check.due("make", x.make(4), MonoShop.OK);
        Check.due("run", x.run(), MonoShop.OK);
        Check.due("value", Check.valueOf(x), Integer.MIN_VALUE);
    }
}
