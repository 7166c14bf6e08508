import java.nio.file.Files;
import java.nio.file.Path;
import java.util.List;
import java.util.regex.Matcher;
import java.util.regex.Pattern;

/** README.md tells how to use the class: each call of its examples answers what stands behind it. */
public final class ReadmeTest {
    private static final Pattern CALL = Pattern.compile("shop\\.(\\w+)\\((-?\\d+)?(?:, (-?\\d+))?\\); +// (-?\\w+).*");
    /** At their numbers; BAD is -1. */
    private static final List<String> ANSWERS =
        List.of("OK", "SHAPE", "UNBOUND", "TYPE", "LARGE", "LONG", "DEPTH", "FULL");

    public static void main(String[] args) throws Exception {
        Shop shop = null;
        int objects = 0;
        int calls = 0;
        for (String line : Files.readAllLines(Path.of("README.md"))) {
            Matcher call = CALL.matcher(line);
            if (line.equals("MonoShop shop = new MonoShop();")) {
                shop = new Shop();
                objects++;
            } else if (call.matches()) {
                long due = number(call.group(4));
                Check.due("README.md: " + line, answer(shop, call.group(1), argument(call, 2), argument(call, 3)), due);
                calls++;
            } else {
                Check.due("README.md: a call without an answer: " + line, line.startsWith("shop."), false);
            }
        }
        Check.due("objects in README.md", objects, 2);
        Check.due("calls in README.md, some", calls > 30, true);
        Check.end();
    }

    private static int argument(Matcher call, int group) {
        return call.group(group) == null ? 0 : Integer.parseInt(call.group(group));
    }

    private static long number(String word) {
        if (word.equals("true") || word.equals("false")) {
            return word.equals("true") ? 1 : 0;
        }
        if (word.equals("BAD") || ANSWERS.contains(word)) {
            return ANSWERS.indexOf(word);
        }
        return Long.parseLong(word);
    }

    private static long answer(Shop shop, String name, int first, int second) {
        switch (name) {
            case "token":
                return shop.token(first, second) ? 1 : 0;
            case "define":
                return shop.define(first, second);
            case "place":
                return shop.place();
            case "type":
                return shop.type(first, second);
            case "make":
                return shop.make(first);
            case "instances":
                return shop.instances();
            case "instance":
                return shop.instance(first, second);
            case "run":
                return shop.run();
            case "steps":
                return shop.steps();
            case "value":
                return shop.value(first);
            default:
                throw new IllegalArgumentException("there is no method " + name);
        }
    }
}
