import java.lang.reflect.InvocationTargetException;
import java.lang.reflect.Method;
import java.util.ArrayList;
import java.util.List;
import java.util.function.Consumer;

/**
 * Every line by which the document lets a call throw: each argument just below and just above its range,
 * and far from it, two arguments at once, and full objects. "The first line of a method's throws clause
 * that applies decides; a call that throws changes nothing." And that the ends of the ranges are taken.
 */
public final class RefusalsTest {
    private static final Class<?> PLACE = IndexOutOfBoundsException.class;
    private static final Class<?> RANGE = IllegalArgumentException.class;
    private static final Class<?> STATE = IllegalStateException.class;
    private static final int LOW = Integer.MIN_VALUE;
    private static final int HIGH = Integer.MAX_VALUE;
    private static final Check C = new Check();
    private static int refused;

    /** What an argument may be, one that is taken, and what is thrown for others; a flag may be both. */
    private record Argument(int least, int most, int good, Class<?> due) {
        List<Integer> wrong() {
            List<Integer> numbers = new ArrayList<>();
            if (due == null) return numbers;
            numbers.add(LOW);
            numbers.add(least - 1);
            if (most < HIGH) numbers.add(most + 1);
            if (most < HIGH) numbers.add(HIGH);
            return numbers;
        }
    }

    private static final Argument FLAG = new Argument(0, 1, 1, null);

    private static Argument place(int most, int good) {
        return new Argument(0, most, good, PLACE);
    }

    private static Argument range(int least, int most, int good) {
        return new Argument(least, most, good, RANGE);
    }

    public static void main(String[] args) {
        filesAndPackages();
        ruleFiles();
        settingsAndToolchains();
        targets();
        moreOfTargets();
        howItIsBuilt();
        builds();
        tests();
        queries();
        System.out.println(refused + " calls were refused, and changed nothing");
        C.end();
    }

    // ---- objects to begin with

    /** Two targets that were built, one of them far, two that were not, and something of everything else. */
    private static void rich(Buildmill b) {
        for (int path = 0; path < 8; path++) b.write(path, 10 * path + 1);
        b.write(41, 529);
        b.pack(5, true);
        b.state(0, Buildmill.SET, 0, 7, 0);
        b.state(0, Buildmill.LIST, 1, 0, 0);
        b.state(0, Buildmill.PUSH, 1, 0, 0);
        b.state(1, Buildmill.LOAD, 0, 0, 0);
        b.state(2, Buildmill.LOAD, 0, 7, 1);
        b.setting(1, 2);
        b.toolchain(0, 1, 2, 40);
        b.toolchain(1, -1, 0, 50);
        b.workers(1, 2);
        b.far(true, 3);
        for (int target = 0; target < 2; target++) {
            b.target(0, Buildmill.JOIN, 100);
            b.source(target, target);
            b.source(target, 2);
            b.work(target, 0, 10 + target, true);
            b.shards(target, 2, 5 * target);
        }
        b.target(0, Buildmill.INCLUDE, 0);
        b.depend(2, 1);
        b.choose(2, 3, 3, 9);
        b.numberFrom(2, 1, 0);
        b.transit(2, 2, 1);
        b.target(5, Buildmill.CHECK, 3);
        b.glob(3, 255, true);
        b.uses(3, 0);
        b.build(3, false, 0);
        b.test(1);
        b.seed(77);
    }

    private static Buildmill make(Consumer<Buildmill> before) {
        Buildmill b = new Buildmill();
        before.accept(b);
        return b;
    }

    private static Consumer<Buildmill> rich(Consumer<Buildmill> more) {
        return b -> {
            rich(b);
            more.accept(b);
        };
    }

    // ---- how it is tried

    private static Class<?> thrown(Buildmill b, String name, int... arguments) {
        for (Method method : Buildmill.class.getDeclaredMethods()) {
            if (!method.getName().equals(name)) continue;
            Object[] row = new Object[arguments.length];
            for (int i = 0; i < row.length; i++) {
                row[i] = method.getParameterTypes()[i] == boolean.class ? (Object) (arguments[i] == 1) : (Object) arguments[i];
            }
            try {
                method.invoke(b, row);
                return null;
            } catch (InvocationTargetException e) {
                return e.getCause().getClass();
            } catch (IllegalAccessException e) {
                throw new RuntimeException(e);
            }
        }
        throw new RuntimeException(name);
    }

    private static String told(String name, int... arguments) {
        return name + java.util.Arrays.toString(arguments);
    }

    private static void taken(Consumer<Buildmill> before, String name, int... arguments) {
        C.due(told(name, arguments) + " is taken", thrown(make(before), name, arguments) == null, true);
    }

    private static void refused(Consumer<Buildmill> before, Class<?> due, String name, int... arguments) {
        Buildmill b = make(before);
        Class<?> got = thrown(b, name, arguments);
        C.due(told(name, arguments) + " throws " + got + ", due is " + due, got == due, true);
        List<String> now = Answers.of(b);
        List<String> then = Answers.of(make(before));
        for (int i = 0; i < then.size(); i++) {
            if (!now.get(i).equals(then.get(i))) {
                C.due(told(name, arguments) + " changed " + then.get(i) + " to " + now.get(i), true, false);
            }
        }
        refused++;
    }

    private static Class<?> stricter(Class<?> one, Class<?> other) {
        return one == PLACE || other == PLACE ? PLACE : one == RANGE || other == RANGE ? RANGE : STATE;
    }

    /** All arguments at their ends, one of them wrong, two of them wrong. */
    private static void arguments(String name, Consumer<Buildmill> before, Argument... row) {
        for (int at = 0; at < row.length; at++) {
            taken(before, name, with(row, at, row[at].least));
            taken(before, name, with(row, at, row[at].most));
        }
        wrongOnes(name, before, row);
    }

    /** The call throws IllegalStateException as it is, and another one if an argument is wrong. */
    private static void inThatState(String name, Consumer<Buildmill> before, Argument... row) {
        refused(before, STATE, name, with(row, 0, row[0].good));
        for (int at = 0; at < row.length; at++) {
            if (row[at].due == null) refused(before, STATE, name, with(row, at, 1 - row[at].good));
        }
        wrongOnes(name, before, row);
    }

    private static void wrongOnes(String name, Consumer<Buildmill> before, Argument... row) {
        for (int at = 0; at < row.length; at++) {
            for (int wrong : row[at].wrong()) {
                refused(before, row[at].due, name, with(row, at, wrong));
                for (int other = at + 1; other < row.length; other++) {
                    if (row[other].due == null) continue;
                    int[] both = with(row, at, wrong);
                    both[other] = row[other].wrong().get(1);
                    refused(before, stricter(row[at].due, row[other].due), name, both);
                }
            }
        }
    }

    private static int[] with(Argument[] row, int at, int number) {
        int[] arguments = new int[row.length];
        for (int i = 0; i < row.length; i++) arguments[i] = i == at ? number : row[i].good;
        return arguments;
    }

    // ---- the promises

    private static void filesAndPackages() {
        C.promise(2);
        arguments("write", RefusalsTest::rich, place(47, 9), range(0, 999, 5));
        C.promise(3);
        arguments("erase", RefusalsTest::rich, place(47, 1));
        C.promise(4);
        for (int directory = 1; directory < 6; directory++) {
            taken(RefusalsTest::rich, "pack", directory, 0);
            taken(RefusalsTest::rich, "pack", directory, 1);
        }
        for (int directory : new int[] {LOW, -1, 6, HIGH}) refused(RefusalsTest::rich, PLACE, "pack", directory, 1);
        inThatState("pack", RefusalsTest::rich, new Argument(0, 5, 0, PLACE), FLAG);
        C.promise(5);
        arguments("packageOf", RefusalsTest::rich, place(47, 1));
        C.promise(6);
        arguments("globbed", rich(b -> {
            for (int directory = 1; directory < 6; directory++) b.pack(directory, true);
        }), place(5, 1), range(0, 255, 3), FLAG);
        for (int directory = 1; directory < 5; directory++) {
            inThatState("globbed", RefusalsTest::rich, place(5, directory), range(0, 255, 3), FLAG);
        }
    }

    private static void ruleFiles() {
        Argument file = place(5, 3);
        Argument name = place(7, 2);
        Argument none = range(0, 0, 0);
        Consumer<Buildmill> full = rich(b -> {
            for (int i = 0; i < 12; i++) b.state(3, Buildmill.SET, i % 8, i, 0);
        });
        C.promise(7);
        for (Consumer<Buildmill> before : List.<Consumer<Buildmill>>of(RefusalsTest::rich, full)) {
            for (int kind = 0; kind < 7; kind++) {
                Argument just = new Argument(kind, kind, kind, null);
                boolean isName = kind == Buildmill.LOAD || kind == Buildmill.ADD || kind == Buildmill.PUSH || kind == Buildmill.SHARE;
                Argument m = isName ? name : kind == Buildmill.SET ? range(0, 999, 8) : none;
                Argument from = kind == Buildmill.LOAD ? place(5, 1) : none;
                if (before == full) wrongOnes("state", before, file, just, name, m, from);
                else arguments("state", before, file, just, name, m, from);
                if (before == full) refused(before, STATE, "state", 3, kind, 0, 0, 0);
            }
            for (int kind : new int[] {LOW, -1, 7, HIGH}) {
                refused(before, RANGE, "state", 3, kind, 0, 0, 0);
                refused(before, RANGE, "state", 3, kind, 7, 9, 9);
                refused(before, PLACE, "state", 6, kind, 0, 0, 0);
                refused(before, PLACE, "state", 3, kind, 8, 0, 0);
            }
        }
        C.promise(8);
        arguments("unstate", RefusalsTest::rich, new Argument(0, 0, 0, null), place(2, 1));
        arguments("unstate", full, new Argument(3, 3, 3, null), place(11, 1));
        arguments("unstate", RefusalsTest::rich, new Argument(1, 1, 1, null), place(0, 0));
        for (int other : new int[] {LOW, -1, 6, HIGH}) refused(full, PLACE, "unstate", other, 0);
        for (int empty = 3; empty < 6; empty++) refused(RefusalsTest::rich, PLACE, "unstate", empty, 0);
        C.promise(9);
        arguments("value", RefusalsTest::rich, file, name);
        C.promise(10);
        arguments("listAt", RefusalsTest::rich, file, name, place(HIGH, 0));
        C.promise(11);
        arguments("ruleFailure", RefusalsTest::rich, file, place(HIGH, 0));
    }

    private static void settingsAndToolchains() {
        C.promise(12);
        arguments("setting", RefusalsTest::rich, place(3, 1), range(0, 3, 1));
        C.promise(13);
        Consumer<Buildmill> full = rich(b -> {
            for (int i = 2; i < 8; i++) b.toolchain(2, -1, 0, i);
        });
        Argument[] needing = {range(0, 2, 1), new Argument(-1, 3, 2, PLACE), range(0, 3, 0), range(0, 99, 1)};
        Argument[] needless = {range(0, 2, 1), new Argument(-1, -1, -1, null), range(0, 0, 0), range(0, 99, 1)};
        arguments("toolchain", RefusalsTest::rich, needing);
        arguments("toolchain", RefusalsTest::rich, needless);
        inThatState("toolchain", full, needing);
        wrongOnes("toolchain", full, needless);
        C.promise(14);
        arguments("untool", RefusalsTest::rich, place(1, 0));
        arguments("untool", full, place(7, 0));
        refused(b -> { }, PLACE, "untool", 0);
    }

    private static void targets() {
        Consumer<Buildmill> full = rich(b -> {
            for (int i = 4; i < 16; i++) b.target(0, Buildmill.JOIN, i);
        });
        C.promise(15);
        Argument[] made = {place(5, 1), range(0, 5, 1), range(0, 999, 1)};
        arguments("target", RefusalsTest::rich, made);
        inThatState("target", full, made);
        C.promise(16);
        arguments("numberFrom", RefusalsTest::rich, place(3, 1), place(5, 0), place(7, 0));
        arguments("numberFrom", full, place(15, 1), place(5, 0), place(7, 0));
        C.promise(17);
        Argument[] chosen = {place(3, 1), place(3, 0), range(0, 3, 0), range(0, 999, 0)};
        arguments("choose", RefusalsTest::rich, chosen);
        inThatState("choose", rich(b -> {
            for (int i = 0; i < 4; i++) b.choose(1, 0, 3, i);
        }), chosen);
        C.promise(18);
        Consumer<Buildmill> six = rich(b -> {
            for (int i = 2; i < 6; i++) b.source(1, i);
        });
        arguments("source", RefusalsTest::rich, place(3, 1), place(47, 0));
        inThatState("source", six, place(3, 1), place(47, 0));
        C.promise(19);
        arguments("glob", RefusalsTest::rich, place(3, 1), range(0, 255, 0), FLAG);
        inThatState("glob", six, place(3, 1), range(0, 255, 0), FLAG);
        C.promise(20);
        arguments("depend", RefusalsTest::rich, new Argument(1, 3, 3, null), new Argument(0, 0, 0, null));
        for (Consumer<Buildmill> before : List.<Consumer<Buildmill>>of(RefusalsTest::rich, six)) depends(before);
        refused(six, STATE, "depend", 1, 0);
        C.promise(21);
        arguments("drop", RefusalsTest::rich, place(3, 1));
        inThatState("drop", rich(b -> b.target(0, 0, 0)), place(4, 4));
        refused(six, PLACE, "drop", 4);
    }

    private static void depends(Consumer<Buildmill> before) {
        for (int wrong : new int[] {LOW, -1, 4, HIGH}) {
            refused(before, PLACE, "depend", wrong, 0);
            refused(before, PLACE, "depend", 1, wrong);
            refused(before, PLACE, "depend", wrong, wrong);
            refused(before, PLACE, "depend", 0, wrong);
        }
        for (int target = 0; target < 4; target++) {
            for (int other = target; other < 4; other++) refused(before, RANGE, "depend", target, other);
        }
    }

    private static void moreOfTargets() {
        Argument target = place(3, 1);
        C.promise(22);
        arguments("uses", RefusalsTest::rich, target, range(-1, 2, 0));
        C.promise(23);
        arguments("transit", RefusalsTest::rich, target, new Argument(-1, 3, 1, PLACE), range(0, 3, 0));
        arguments("transit", RefusalsTest::rich, target, new Argument(-1, -1, -1, null), range(0, 0, 0));
        for (int setting : new int[] {LOW, -2, 4, HIGH}) refused(RefusalsTest::rich, PLACE, "transit", 1, setting, 0);
        C.promise(24);
        arguments("work", RefusalsTest::rich, target, place(2, 1), range(1, 20, 2), FLAG);
        C.promise(25);
        arguments("shards", RefusalsTest::rich, target, range(0, 4, 1), range(0, 9, 1));
        C.promise(26);
        arguments("targetError", RefusalsTest::rich, target, place(HIGH, 0));
        for (String name : List.of("above", "output", "outputFromNothing", "actionOf")) {
            refused(b -> { }, PLACE, name, 0);
        }
    }

    private static void howItIsBuilt() {
        C.promise(27);
        arguments("workers", RefusalsTest::rich, place(2, 1), range(1, 4, 2));
        C.promise(29);
        arguments("far", RefusalsTest::rich, FLAG, range(1, 9, 1));
        for (int latency : new int[] {LOW, 0, 10, HIGH}) refused(RefusalsTest::rich, RANGE, "far", 0, latency);
        C.promise(30);
        arguments("lose", RefusalsTest::rich, range(0, 999, 101));
    }

    private static void builds() {
        C.promise(33);
        Argument[] row = {new Argument(1, 15, 7, PLACE), FLAG, range(0, 999, 0)};
        arguments("build", RefusalsTest::rich, row);
        for (int set : new int[] {16, 17, 31, 1 << 16, 1 << 30, -1, LOW + 1, 0}) {
            refused(RefusalsTest::rich, PLACE, "build", set, 1, 0);
            refused(RefusalsTest::rich, PLACE, "build", set, 0, -1);
        }
        for (int set : new int[] {0, 1, -1, LOW, HIGH}) refused(b -> { }, PLACE, "build", set, 1, 0);
        arguments("build", b -> {
            for (int i = 0; i < 16; i++) b.target(0, Buildmill.JOIN, i);
        }, new Argument(1, (1 << 16) - 1, 1, PLACE), FLAG, range(0, 999, 0));
        Argument[] more = {new Argument(1, (1 << 16) - 1, 1 << 15, PLACE), FLAG, range(0, 999, 0)};
        inThatState("build", RefusalsTest::overfull, more);
        refused(RefusalsTest::overfull, STATE, "build", (1 << 16) - 1, 1, 1);
        C.promise(44);
        arguments("test", rich(b -> {
            b.shards(2, 4, 0);
            b.shards(3, 1, 9);
        }), place(3, 1));
        inThatState("test", RefusalsTest::rich, place(3, 2));
        inThatState("test", rich(b -> b.shards(1, 0, 5)), place(3, 1));
        inThatState("test", RefusalsTest::overfull, place(15, 15));
        refused(b -> { }, PLACE, "test", 0);
        C.promise(34);
        arguments("told", RefusalsTest::rich, range(0, 11, 1));
        C.promise(36);
        arguments("critical", RefusalsTest::rich, place(HIGH, 0));
        C.promise(38);
        arguments("actionOf", RefusalsTest::rich, place(3, 1));
        C.promise(39);
        arguments("input", RefusalsTest::rich, place(1, 0), place(HIGH, 0));
        refused(b -> { }, PLACE, "input", 0, 0);
        C.promise(40);
        arguments("became", RefusalsTest::rich, place(1, 0), range(0, 2, 0));
        refused(b -> { }, PLACE, "became", 0, 3);
        C.promise(41);
        arguments("found", RefusalsTest::rich, place(1, 0), place(HIGH, 0));
        refused(b -> { }, PLACE, "found", 0, 0);
        C.promise(42);
        arguments("output", RefusalsTest::rich, place(3, 1));
        C.promise(43);
        arguments("outputFromNothing", RefusalsTest::rich, place(3, 1));
    }

    /** 120 actions of the targets 0 to 14; one of 15 would be one more. The path 4 has a new content. */
    private static void overfull(Buildmill b) {
        for (int target = 0; target < 15; target++) b.target(0, Buildmill.JOIN, target);
        b.target(0, Buildmill.JOIN, 500);
        b.toolchain(0, -1, 0, 0);
        b.shards(15, 2, 5);
        for (int version = 0; version < 8; version++) {
            b.toolchain(0, -1, 0, version);
            b.untool(0);
            for (int target = 0; version == 0 && target < 15; target++) b.uses(target, 0);
            b.build((1 << 15) - 1, false, 0);
        }
        b.write(4, 101);
    }

    private static void tests() {
        C.promise(45);
        arguments("shard", RefusalsTest::rich, place(3, 1), place(3, 0));
        C.promise(47);
        arguments("seed", RefusalsTest::rich, range(0, HIGH, 1));
    }

    private static void queries() {
        Argument target = place(3, 2);
        C.promise(48);
        arguments("someWay", RefusalsTest::rich, target, target, place(HIGH, 0));
        C.promise(49);
        arguments("allWays", RefusalsTest::rich, target, target);
        C.promise(50);
        arguments("above", RefusalsTest::rich, target);
    }
}
