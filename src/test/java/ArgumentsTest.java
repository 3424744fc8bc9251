import java.lang.reflect.Method;
import java.util.ArrayList;
import java.util.List;
import java.util.Random;
import java.util.TreeSet;

/**
 * Every method with arguments of any size, on objects in any state, beside the Model: each answer,
 * the class of each exception, and that nothing has changed behind a call that throws.
 */
public final class ArgumentsTest {
    private static final int[] EDGES = {
        Integer.MIN_VALUE, Integer.MIN_VALUE + 1, -1000000, -1001, -1000, -256, -121, -49, -48, -17, -12, -8, -6, -4, -3, -2, -1,
        0, 1, 2, 3, 4, 5, 6, 7, 8, 9, 10, 11, 12, 15, 16, 17, 20, 21, 47, 48, 49, 63, 64, 99, 100, 119, 120, 121, 122,
        255, 256, 500, 511, 512, 999, 1000, 1001, 4095, 4096, 32767, 65535, 65536, 1 << 20, Integer.MAX_VALUE - 1, Integer.MAX_VALUE};

    private final Random random;
    private final Pair pair = new Pair();
    private final List<String> names = new ArrayList<>(new TreeSet<>(Pair.MILLS.keySet()));

    private ArgumentsTest(long seed) {
        random = new Random(seed);
    }

    public static void main(String[] args) {
        int runs = args.length > 0 ? Integer.parseInt(args[0]) : 600;
        for (long seed = 1; seed <= runs; seed++) {
            ArgumentsTest test = new ArgumentsTest(seed);
            test.play(seed);
            if (test.pair.isWrong()) {
                System.out.println("seed " + seed + ":\n" + test.pair.told());
                System.exit(1);
            }
        }
        System.out.println(runs + " runs with arguments of any size are as the model has them");
    }

    private void play(long seed) {
        if (seed % 3 != 0) setUp();
        while (!pair.isOver()) {
            String name = names.get(random.nextInt(names.size()));
            Method method = Pair.MILLS.get(name);
            Class<?>[] types = method.getParameterTypes();
            Object[] args = new Object[types.length];
            int odd = types.length == 0 ? 0 : random.nextInt(types.length);
            for (int i = 0; i < args.length; i++) {
                args[i] = types[i] == boolean.class ? (Object) random.nextBoolean() : (Object) argument(i == odd);
            }
            pair.call(name, args);
            if (random.nextInt(4) == 0) pair.call("build", 1 << random.nextInt(6), true, random.nextInt(3) * 5);
        }
    }

    private int argument(boolean isOdd) {
        if (!isOdd || random.nextInt(4) == 0) return random.nextInt(4);
        return random.nextInt(10) == 0 ? random.nextInt() : EDGES[random.nextInt(EDGES.length)];
    }

    private void setUp() {
        for (int path = 0; path < 8; path++) pair.call("write", path, 400 + 70 * path);
        pair.call("pack", 1, true);
        pair.call("write", 9, 600);
        pair.call("toolchain", 0, -1, 0, 7);
        for (int file = 0; file < 4; file++) {
            pair.call("state", file, 0, 0, file, 0);
            pair.call("state", file, 3, 1, 0, 0);
            pair.call("state", file, 4, 1, 0, 0);
            if (file > 0) pair.call("state", file, 1, 2, 1, file - 1);
        }
        for (int target = 0; target < 6; target++) {
            pair.call("target", 0, (target + 5) % 6, target);
            pair.call("glob", target, 7 << target % 4, true);
            if (target > 0) pair.call("depend", target, target - 1);
            pair.call("work", target, 0, target + 1, target % 2 == 0);
            pair.call("shards", target, target % 4, target % 3 * 3);
        }
        pair.call("build", 63, true, 0);
        pair.call("test", 3);
    }
}
