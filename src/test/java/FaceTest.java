import java.lang.reflect.Member;
import java.lang.reflect.Modifier;
import java.util.Arrays;
import java.util.stream.Collectors;
import java.util.stream.Stream;

/** The public face: nothing of it is missing, and nothing else can be seen. */
public final class FaceTest {
    public static void main(String[] args) {
        String face = Stream.of(MonoShop.class.getDeclaredConstructors(), MonoShop.class.getDeclaredMethods())
            .flatMap(Arrays::stream).filter(m -> !Modifier.isPrivate(((Member) m).getModifiers()))
            .map(Object::toString).sorted().collect(Collectors.joining("\n"));
        Check.due("the face", face, String.join("\n",
            "public MonoShop()",
            "public boolean MonoShop.token(int,int)",
            "public int MonoShop.define(int,int)",
            "public int MonoShop.instance(int,int)",
            "public int MonoShop.instances()",
            "public int MonoShop.make(int)",
            "public int MonoShop.place()",
            "public int MonoShop.run()",
            "public int MonoShop.steps()",
            "public int MonoShop.type(int,int)",
            "public long MonoShop.value(int)"));
        Check.due("the class", Modifier.toString(MonoShop.class.getModifiers()), "public final");
        String constants = Arrays.stream(MonoShop.class.getDeclaredFields())
            .filter(f -> !Modifier.isPrivate(f.getModifiers())).map(Object::toString).sorted()
            .map(s -> s.replace("public static final int MonoShop.", "")).collect(Collectors.joining(" "));
        Check.due("the constants", constants, "BAD DEPTH FULL LARGE LONG OK SHAPE TYPE UNBOUND");
        int[] values = {MonoShop.OK, MonoShop.SHAPE, MonoShop.UNBOUND, MonoShop.TYPE, MonoShop.LARGE, MonoShop.LONG,
            MonoShop.DEPTH, MonoShop.FULL, MonoShop.BAD};
        Check.due("their values", Arrays.toString(values), "[0, 1, 2, 3, 4, 5, 6, 7, -1]");
        Check.end();
    }
}
