import java.util.List;
import java.util.function.Function;

/** "What it is": for how many calls an object is used. */
public final class UseTest {
    public static void main(String[] args) {
        lastCallIsAnswered();
        refusedCallsWearNothingOut();
        definesWearNothingOut();
        makesWearNothingOut();
        runsWearNothingOut();
        laterCallsEnd();
        Check.end();
    }

    private record Call(String name, Function<Shop, Object> call, Object due) {
    }

    /** Each of them as asked of an object whose function 4 is "c0 7", made and run, with one token in the draft. */
    private static final List<Call> CALLS = List.of(
        new Call("token", x -> x.token(1, 0), true),
        new Call("define", x -> x.define(1, 0), MonoShop.OK),
        new Call("place", x -> x.place(), -1),
        new Call("type", x -> x.type(0, 1), 10),
        new Call("make", x -> x.make(4), MonoShop.OK),
        new Call("instances", x -> x.instances(), 2),
        new Call("instance", x -> x.instance(1, 2), 0),
        new Call("run", x -> x.run(), MonoShop.OK),
        new Call("steps", x -> x.steps(), 1),
        new Call("value", x -> x.value(0), 7));

    /** An object is used for at most 512 calls after it has been made. */
    private static void lastCallIsAnswered() {
        for (Call last : CALLS) {
            Shop x = new Shop();
            Check.defined(x, 0, 1, "v0");
            Check.ran(x, "c0 7", MonoShop.OK, 1, "7");
            Check.draft(x, "true");
            while (x.left() > 1) {
                Check.due("a call more", x.value(1), Check.NOTHING);
            }
            Check.due("call 512, " + last.name, last.call.apply(x), last.due);
        }
    }

    private static void refusedCallsWearNothingOut() {
        Shop x = new Shop();
        while (x.left() >= 4 + 5) {
            Check.due("token", x.token(17, 0), false);
            Check.due("define", x.define(5, 0), MonoShop.BAD);
            Check.due("make", x.make(0), MonoShop.BAD);
            Check.due("run", x.run(), MonoShop.BAD);
        }
        Check.due("token", x.token(0, 5), true);
        Check.due("define", x.define(4, 0), MonoShop.OK);
        Check.due("make", x.make(4), MonoShop.OK);
        Check.due("run", x.run(), MonoShop.OK);
        Check.due("value", x.value(0), 5);
    }

    private static void definesWearNothingOut() {
        Shop x = new Shop();
        String body = "lam " + "add 1 ".repeat(11) + "v0";
        while (x.left() > 4 * 27) {
            Check.typed(x, 0, 0, body, "4 0 0");
            Check.refused(x, 1, 2, "lam " + "add 1 ".repeat(11) + "true", MonoShop.TYPE, 23);
        }
        while (x.left() > 26) {
            Check.due("define with an empty draft", x.define(0, 0), MonoShop.SHAPE);
        }
        Check.defined(x, 4, 0, body);
    }

    private static void makesWearNothingOut() {
        Shop x = new Shop();
        Check.defined(x, 0, 1, "first pair v0 1");
        Check.defined(x, 3, 0, "c0 " + Check.pairs(7, "1"));
        Check.defined(x, 4, 0, "pair c0 1 pair c0 true c0 nil");
        while (x.left() > 4) {
            Check.due("make", x.make(4), MonoShop.OK);
            Check.due("instances", x.instances(), 4);
            Check.due("make", x.make(3), MonoShop.LARGE);
            Check.due("instances", x.instances(), 0);
        }
    }

    private static void runsWearNothingOut() {
        // Function 0 takes a LAM, an APP, a CONS and a CALL for each number it counts down, and one CALL more.
        String[] bodies = {"add c0 9 c0 9", "c1", "add c0 19 add c0 19 c0 3", "c2 7"};
        int[] answers = {MonoShop.OK, MonoShop.DEPTH, MonoShop.FULL, MonoShop.LONG};
        int[] steps = {38, 21, 83, 200};
        for (int i = 0; i < bodies.length; i++) {
            Shop x = new Shop();
            Check.defined(x, 0, 1, "if less v0 1 0 let lam cons v0 nil let app v1 2 c0 add v0 -1");
            Check.defined(x, 1, 0, "c1");
            Check.defined(x, 2, 1, "if less v0 1 0 let c2 add v0 -1 c2 add v0 -1");
            Check.made(x, bodies[i]);
            while (x.left() > 2) {
                Check.due("run of " + bodies[i], x.run(), answers[i]);
                Check.due("steps of " + bodies[i], x.steps(), steps[i]);
            }
        }
    }

    /** What later calls answer is free; LANGUAGE.md, rule 7, still asks that they end. */
    private static void laterCallsEnd() {
        MonoShop x = new MonoShop();
        for (int call = 0; call < 5 * Shop.MOST_CALLS; call++) {
            x.token(4 + call % 13, call % 5);
            x.token(3, call % 10);
            x.token(call, call);
            x.define(call % 7 - 1, call % 5 - 1);
            x.make(call % 7 - 1);
            x.run();
            x.type(call % 7 - 1, call % 45 - 1);
            x.instance(call % 14 - 1, call % 45 - 1);
            x.value(call % 402 - 1);
        }
    }
}
