import java.util.ArrayList;
import java.util.List;
import java.util.Random;

/** All promises: random runs of calls, answered by MonoShop as by Reference, for at most 512 calls. The seeds are fixed. */
public final class RandomTest {
    /** Some more than a draft takes. */
    private static final int TOKENS = 30;
    /** A round takes the tokens and a few calls more; what is left then is used to look at what they did. */
    private static final int ROUND = TOKENS + 10;
    private static final int[] answers = new int[9];
    private static final int[] makeAnswers = new int[9];
    private static final int[] runAnswers = new int[9];

    public static void main(String[] args) {
        int objects = args.length > 0 ? Integer.parseInt(args[0]) : 1500;
        for (int seed = 0; seed < objects; seed++) {
            useOne(seed);
            useWorkers(seed);
            useAnyhow(seed);
        }
        if (args.length > 0) {
            System.out.println("define " + java.util.Arrays.toString(answers) + ", make "
                + java.util.Arrays.toString(makeAnswers) + ", run " + java.util.Arrays.toString(runAnswers));
        }
        Check.end();
    }

    private static void useOne(int seed) {
        Random random = new Random(seed);
        Shop x = new Shop();
        Reference y = new Reference();
        Bodies bodies = new Bodies(random, y);
        for (int round = 0; x.left() > ROUND; round++) {
            String where = "seed " + seed + " round " + round + ": ";
            int f = random.nextInt(20) == 0 ? random.nextInt(9) - 2 : random.nextInt(5);
            int parameters = random.nextInt(20) == 0 ? random.nextInt(7) - 2 : f == 4 ? 0 : random.nextInt(3);
            List<int[]> tokens = bodies.body(Math.floorMod(f, 5), Math.floorMod(parameters, 3));
            define(where, x, y, f, parameters, tokens);
            int made = random.nextInt(4) == 0 ? random.nextInt(7) - 1 : 4;
            makeAndRun(where, x, y, made, random);
        }
        compareRest("seed " + seed + " at the end: ", x, y);
    }

    private static void makeAndRun(String where, Shop x, Reference y, int made, Random random) {
        makeAnswers[compare(where + "make " + made, x.make(made), y.make(made)) + 1]++;
        runAnswers[compare(where + "run", x.run(), y.run()) + 1]++;
        compareInstances(where, x, y);
        compareValues(where, x, y, random);
    }

    /** Functions that make types, lists and work grow, called from each other and from a function without parameters. */
    private static final String[] WORKERS = {"1 v0", "1 pair v0 v0", "1 cons v0 nil", "1 cons v0 cons v0 nil",
        "1 first pair v0 pair v0 v0", "1 let lam pair v0 v0 v0", "2 pair v1 v0", "2 app v0 v1", "2 v1", "0 nil",
        "1 lam v0", "1 lam pair v0 v1", "2 lam app v0 app v1 v2", "1 case v0 nil cons v1 cons v1 v2",
        "1 if less v0 1 0 let cN add v0 -1 cN add v0 -1", "1 if less v0 1 v0 add 1 cN add v0 -1",
        "2 if less v1 1 v0 cN cons v1 cons v1 cons v1 cons v1 cons v1 cons v1 v0 add v1 -1",
        "2 if less v1 1 v0 cN lam app v0 v2 add v1 -1", "2 case v0 v1 cons v2 cN v3 v1",
        "2 case v1 nil cons app v0 v2 cN v0 v3", "1 cN v0", "1 case v0 0 add 1 cN v2", "1 case v0 nil case v2 v0 v4",
        "2 if less v1 1 v0 let cN v0 add v1 -1 cN v2 add v1 -1", "1 cM cM v0", "1 pair cM v0 cM true", "1 cM cons v0 nil",
        "2 cM v0 v1", "1 let cM v0 cM v1", "2 cM v1 cM v0 v1"};

    private static void useWorkers(int seed) {
        Random random = new Random(seed);
        Shop x = new Shop();
        Reference y = new Reference();
        for (int f = 0; f < 4; f++) {
            String worker = WORKERS[random.nextInt(WORKERS.length)];
            String called = "c" + (f == 0 ? 0 : random.nextInt(f));
            String body = worker.substring(2).replace("cN", "c" + f).replace("cM", called);
            define("seed " + seed + " worker " + body + ": ", x, y, f, worker.charAt(0) - '0', Check.tokens(body));
        }
        for (int round = 0; x.left() > ROUND; round++) {
            List<int[]> tokens = new ArrayList<>();
            work(random, y, tokens, 0);
            String where = "seed " + seed + " workers, round " + round + ": ";
            define(where, x, y, 4, 0, tokens);
            makeAndRun(where, x, y, 4, random);
        }
        compareRest("seed " + seed + " workers, at the end: ", x, y);
    }

    private static void define(String where, Shop x, Reference y, int f, int parameters, List<int[]> tokens) {
        for (int[] t : tokens.subList(0, Math.min(TOKENS, tokens.size()))) {
            Check.due(where + "token " + t[0] + " " + t[1], x.token(t[0], t[1]), y.token(t[0], t[1]));
        }
        answers[compare(where + "define " + f, x.define(f, parameters), y.define(f, parameters)) + 1]++;
        Check.due(where + "place", x.place(), y.place);
        compareTypes(where, x, y, f);
    }

    private static void work(Random random, Reference y, List<int[]> tokens, int deep) {
        int g = random.nextInt(4);
        if (deep < 6 && tokens.size() < 16 && random.nextInt(5) > 0 && y.functions[g] != null) {
            tokens.add(new int[] {4, g});
            for (int p = 0; p < y.functions[g].parameters; p++) {
                work(random, y, tokens, deep + 1);
            }
            return;
        }
        String[] leaves = {"1", "6", "18", "true", "nil", "cons 5 nil", "cons true cons false nil", "lam v0", "lam add v0 1",
            "pair 1 true", "lam c0 v0"};
        String leaf = leaves[random.nextInt(leaves.length)];
        if (deep < 4 && random.nextInt(4) == 0) {
            tokens.add(new int[] {5, 0});
            work(random, y, tokens, deep + 1);
        }
        tokens.addAll(Check.tokens(leaf));
    }

    /** Calls without any sense, as many as an object is used for. */
    private static void useAnyhow(int seed) {
        Random random = new Random(seed);
        Shop x = new Shop();
        Reference y = new Reference();
        for (int call = 0; x.left() > 0; call++) {
            String where = "seed " + seed + " call " + call + ": ";
            int a = anyhow(random, 17);
            int b = anyhow(random, 5);
            switch (random.nextInt(13)) {
                case 0, 1 -> Check.due(where + "define", x.define(b, a % 5), y.define(b, a % 5));
                case 2 -> Check.due(where + "place", x.place(), y.place);
                case 3 -> Check.due(where + "type", x.type(b, a), y.type(b, a));
                case 4 -> Check.due(where + "make", x.make(b), y.make(b));
                case 5 -> Check.due(where + "instances", x.instances(), y.made.size());
                case 6 -> Check.due(where + "instance", x.instance(b, a), y.instance(b, a));
                case 7 -> Check.due(where + "run", x.run(), y.run());
                case 8 -> Check.due(where + "steps", x.steps(), y.steps);
                case 9 -> Check.due(where + "value", x.value(a), y.value(a));
                default -> Check.due(where + "token", x.token(a, b), y.token(a, b));
            }
        }
    }

    private static int anyhow(Random random, int below) {
        int choice = random.nextInt(40);
        return choice == 0 ? random.nextInt() : choice == 1 ? below : choice == 2 ? -1 : random.nextInt(below);
    }

    private static int compare(String what, int got, int want) {
        Check.due(what, got, want);
        return want;
    }

    private static void compareTypes(String where, Shop x, Reference y, int f) {
        for (int g = -1; g < 6 && x.left() > ROUND; g++) {
            Check.due(where + "type " + g + " 0", x.type(g, 0), y.type(g, 0));
        }
        for (int k = 1; x.left() > ROUND && (k == 1 || y.type(f, k - 1) != -1); k++) {
            Check.due(where + "type " + f + " " + k, x.type(f, k), y.type(f, k));
        }
    }

    private static void compareInstances(String where, Shop x, Reference y) {
        if (x.left() > 0) {
            Check.due(where + "instances", x.instances(), y.made.size());
        }
        for (int i = 0; i <= y.made.size(); i++) {
            for (int k = 0; x.left() > ROUND && (k == 0 || y.instance(i, k - 1) != -1); k++) {
                Check.due(where + "instance " + i + " " + k, x.instance(i, k), y.instance(i, k));
            }
        }
    }

    private static void compareValues(String where, Shop x, Reference y, Random random) {
        if (x.left() > 0) {
            Check.due(where + "steps", x.steps(), y.steps);
        }
        for (int i = 0; i < 12 && x.left() > 0; i++) {
            int k = i < 8 ? i : random.nextInt(403) - 1;
            Check.due(where + "value " + k, x.value(k), y.value(k));
        }
    }

    /** What can be asked without a change, for as many calls as are left. */
    private static void compareRest(String where, Shop x, Reference y) {
        for (int k = 0; x.left() > 0; k++) {
            Check.due(where + "value " + k, x.value(k), y.value(k));
        }
    }
}
