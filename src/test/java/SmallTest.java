import java.util.List;

/** Promises 3 to 11: every body of at most four tokens, with any number of parameters, answered as by Reference. */
public final class SmallTest {
    private static final int MOST_TOKENS = 4;
    /** One body needs fewer calls than this: its types and instances are short. */
    private static final int CALLS_OF_ONE = 100;
    /** Function 0 is being defined, function 1 has a body, function 2 has none. FALSE is as TRUE. */
    private static final List<int[]> TOKENS = Check.tokens(
        "2147483647 true v0 v1 c0 c1 c2 pair first second nil cons case if add less let lam app");
    private static Shop shop;
    private static Reference reference;

    public static void main(String[] args) {
        renew();
        for (int parameters = 0; parameters <= 2; parameters++) {
            int bodies = 1;
            for (int length = 0; length <= MOST_TOKENS; length++) {
                for (int body = 0; body < bodies; body++) {
                    use(body, length, parameters);
                }
                bodies *= TOKENS.size();
            }
        }
        Check.end();
    }

    private static void renew() {
        shop = new Shop();
        reference = new Reference();
        for (int[] token : Check.tokens("pair v0 v0")) {
            shop.token(token[0], token[1]);
            reference.token(token[0], token[1]);
        }
        Check.due("define 1", shop.define(1, 1), reference.define(1, 1));
    }

    /** The tokens are the digits of the body's number. */
    private static void use(int body, int length, int parameters) {
        if (shop.left() < CALLS_OF_ONE) {
            renew();
        }
        StringBuilder tokens = new StringBuilder();
        int rest = body;
        for (int t = 0; t < length; t++) {
            int[] token = TOKENS.get(rest % TOKENS.size());
            rest /= TOKENS.size();
            tokens.append(token[0]).append(':').append(token[1]).append(' ');
            Check.due("token", shop.token(token[0], token[1]), reference.token(token[0], token[1]));
        }
        String where = parameters + " parameters, tokens " + tokens;
        int answer = shop.define(0, parameters);
        Check.due(where + "define", answer, reference.define(0, parameters));
        Check.due(where + "place", shop.place(), reference.place);
        if (answer == MonoShop.OK) {
            compareType(where);
            compareMade(where);
        }
    }

    private static void compareType(String where) {
        for (int k = 0; k == 0 || reference.type(0, k - 1) != -1; k++) {
            Check.due(where + "type 0 " + k, shop.type(0, k), reference.type(0, k));
        }
    }

    private static void compareMade(String where) {
        Check.due(where + "make 0", shop.make(0), reference.make(0));
        Check.due(where + "instances", shop.instances(), reference.made.size());
        for (int i = 0; i < reference.made.size(); i++) {
            for (int k = 0; k == 0 || reference.instance(i, k - 1) != -1; k++) {
                Check.due(where + "instance " + i + " " + k, shop.instance(i, k), reference.instance(i, k));
            }
        }
        Check.due(where + "run", shop.run(), reference.run());
        Check.due(where + "steps", shop.steps(), reference.steps);
        for (int k = 0; k == 0 || reference.value(k - 1) != Check.NOTHING; k++) {
            Check.due(where + "value " + k, shop.value(k), reference.value(k));
        }
    }
}
