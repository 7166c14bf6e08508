/** A MonoShop that counts its calls, so that no test looks at what the document frees: answers after the 512th call. */
final class Shop {
    static final int MOST_CALLS = 512;
    private final MonoShop shop = new MonoShop();
    private int calls = 0;

    /** How many calls more the document speaks of. */
    int left() {
        return MOST_CALLS - calls;
    }

    private MonoShop used() {
        if (left() == 0) {
            throw new IllegalStateException("this test uses an object for more than " + MOST_CALLS + " calls");
        }
        calls++;
        return shop;
    }

    boolean token(int kind, int value) {
        return used().token(kind, value);
    }

    int define(int f, int parameters) {
        return used().define(f, parameters);
    }

    int place() {
        return used().place();
    }

    int type(int f, int k) {
        return used().type(f, k);
    }

    int make(int f) {
        return used().make(f);
    }

    int instances() {
        return used().instances();
    }

    int instance(int i, int k) {
        return used().instance(i, k);
    }

    int run() {
        return used().run();
    }

    int steps() {
        return used().steps();
    }

    long value(int k) {
        return used().value(k);
    }
}
