import java.util.Random;

/**
 * Plays random runs of 512 calls on a Buildmill and on a Model, and compares every answer and every
 * exception. Arguments: how many runs, and the first seed.
 */
public final class ModelTest {
    private static final int[] CONTENTS = {500, 501, 502, 503, 507, 510, 515, 523, 524, 530, 547, 548, 549, 612, 700, 956, 999};

    private final Random random;
    private final Pair pair = new Pair();
    private int targetCount;

    // What this run is like.
    private final boolean isNested;
    private final boolean isPointing;
    private final boolean isSmall;
    private final boolean isWild;
    private final boolean isSound;
    private final boolean isBusy;
    private final int mood;
    private final int favourite;
    private final int many;

    private ModelTest(long seed) {
        random = new Random(seed);
        mood = random.nextInt(5);
        isSound = mood > 1;
        isBusy = (mood == 2 || mood == 4) && random.nextBoolean();
        isNested = mood == 4 || !isSound && random.nextBoolean();
        isPointing = mood == 4 || random.nextInt(3) == 0;
        isSmall = random.nextInt(3) == 0;
        isWild = random.nextInt(8) == 0;
        favourite = mood == 4 ? Buildmill.INCLUDE : random.nextInt(9);
        many = mood == 3 ? 16 : 2 + random.nextInt(15);
    }

    public static void main(String[] args) {
        int runs = args.length > 0 ? Integer.parseInt(args[0]) : 1500;
        long first = args.length > 1 ? Long.parseLong(args[1]) : 1;
        for (long seed = first; seed < first + runs; seed++) {
            ModelTest test = new ModelTest(seed);
            test.play();
            if (test.pair.isWrong()) {
                System.out.println("seed " + seed + ":\n" + test.pair.told());
                System.exit(1);
            }
        }
        System.out.println(runs + " random runs are as the model has them");
    }

    private Object call(String name, Object... args) {
        return pair.call(name, args);
    }

    private void play() {
        switch (mood) {
            case 0 -> setUp();
            case 1 -> rules();
            default -> setUpSound();
        }
        if (isSound) {
            playSound();
            return;
        }
        while (!pair.isOver()) {
            int kind = random.nextInt(20);
            if (kind < 8) change();
            else if (kind < 12) build();
            else if (kind < 13) test();
            else if (kind < 19) ask();
            else changeTarget(target());
        }
    }

    // ---- arguments

    private int below(int bound) {
        return random.nextInt(bound);
    }

    /** Mostly 0 to bound - 1, now and then just outside. */
    private int near(int bound) {
        int chance = random.nextInt(isWild ? 12 : 60);
        return chance == 0 ? -1 - random.nextInt(2) : chance == 1 ? bound + random.nextInt(2) : random.nextInt(Math.max(bound, 1));
    }

    private boolean coin() {
        return random.nextBoolean();
    }

    private int content() {
        if (random.nextInt(40) == 0) return near(1000);
        if (isPointing && random.nextInt(4) != 0) return CONTENTS[below(CONTENTS.length)];
        return isSmall ? below(12) : below(1000);
    }

    private int target() {
        return near(targetCount);
    }

    private int path() {
        if (random.nextInt(50) == 0) return near(48);
        return isNested ? below(48) : below(3) == 0 ? below(48) : below(8);
    }

    // ---- runs in which little is in error: caches, bytes, workers (2), many actions (3), includes (4)

    private void setUpSound() {
        for (int path = 0; path < 48; path++) {
            if (path < 8 || coin()) call("write", path, content());
        }
        if (mood == 4) {
            call("pack", 1, true);
            call("pack", 2, coin());
            call("pack", 4, coin());
        }
        for (int type = 0; type < 3 && mood == 3; type++) {
            call("toolchain", type, type, 1 + below(3), below(100));
            if (type < 2) call("toolchain", type, 3, 1 + below(3), below(100));
            call("toolchain", type, -1, 0, below(100));
        }
        if (mood == 2) call("toolchain", 0, 0, 1, 5);
        if (mood == 2) call("toolchain", 0, -1, 0, below(2));
        if (coin() && !isBusy) call("workers", 0, 1 + below(4));
        if (isBusy) call("far", true, 1);
        for (int i = 0; i < many; i++) addSoundTarget(i);
        if (isBusy) call("build", (1 << targetCount / 2 + 1) - 1, true, 0);
    }

    private int soundOperation() {
        if (mood == 4) return below(4) == 0 ? below(6) : Buildmill.INCLUDE;
        return below(12) == 0 ? Buildmill.CHECK : below(5) == 4 ? Buildmill.INCLUDE : below(4);
    }

    private void addSoundTarget(int target) {
        int directory = mood == 4 ? below(3) == 0 ? 1 : 0 : 0;
        call("target", directory, soundOperation(), mood == 3 ? target * 40 : coin() ? below(3) : content());
        targetCount = target + 1;
        if (coin()) call("source", target, directory * 8 + below(8));
        if (mood == 4 && coin()) call("glob", target, 1 << below(8) | 1 << below(8), coin());
        int depends = target == 0 ? 0 : mood == 3 ? 1 : below(4);
        for (int i = 0; i < depends; i++) call("depend", target, coin() ? below(target) : Math.max(0, target - 1 - below(3)));
        if (target == 0 && isBusy) call("work", target, 0, 20, false);
        else if (isBusy) call("work", target, 0, 1 + below(3), true);
        else if (below(4) != 0) call("work", target, below(4) == 0 ? below(3) : 0, 1 + below(20), below(3) != 0);
        if (mood == 3 || below(5) == 0) call("uses", target, mood == 3 ? below(3) : 0);
        if (below(6) == 0) call("transit", target, below(4), below(4));
        for (int i = 0; i < 4 && mood == 3 && coin(); i++) call("choose", target, i, below(4), target * 40 + i);
        if (below(4) == 0) call("shards", target, 1 + below(4), coin() ? 0 : below(10));
    }

    private void playSound() {
        while (!pair.isOver()) {
            int kind = below(mood == 3 ? 8 : 12);
            if (kind < 3) buildSound();
            else if (kind < 4) call("setting", below(4), below(mood == 3 ? 4 : 2));
            else if (kind < 6) changeSound();
            else if (kind < 7) ask();
            else if (mood == 3) call("setting", below(4), below(3));
            else if (kind < 9) call("write", mood == 4 ? below(48) : below(8), content());
            else if (kind < 10) call("forget", below(4) == 0);
            else if (kind < 11) loseMuch();
            else test();
        }
    }

    private void changeSound() {
        switch (below(12)) {
            case 0 -> call("erase", 8 + below(40));
            case 1, 2 -> call("sandbox", coin());
            case 3, 4 -> call("far", below(3) != 0, 1 + below(9));
            case 5 -> call("workers", below(2), 1 + below(4));
            case 6, 7 -> call("work", below(targetCount), below(4) == 0 ? below(3) : 0, 1 + below(20), coin());
            case 8 -> call("pack", 1 + below(5), mood == 4 && coin());
            case 9 -> call("choose", below(targetCount), below(4), below(4), content());
            case 10 -> call("write", below(48), content());
            default -> call("setting", 0, below(2));
        }
    }

    /** So that something must be run again: bytes are lost, and new inputs come. */
    private void loseMuch() {
        if (coin()) {
            loseSome();
            return;
        }
        if (coin()) {
            call("far", false, 1);
        } else {
            for (int target = 0; target < targetCount; target++) {
                Object got = pair.ask("output", target);
                if (got instanceof Integer && !got.equals(-1)) call("lose", got);
            }
        }
        for (int i = 0; i < 3; i++) call("write", below(mood == 4 ? 48 : 8), content());
        buildSound();
        call("far", true, 1 + below(9));
    }

    private void buildSound() {
        int all = (1 << targetCount) - 1;
        int set = coin() ? all : Math.max(1, random.nextInt() & all);
        call("build", set, below(3) != 0, below(6) == 0 ? 1 + below(40) : 0);
        tell();
    }

    // ---- runs in which rule files are gone through

    private void rules() {
        for (int i = 0; i < 8; i++) call("write", i, content());
        for (int i = 0; i < many; i++) addTarget();
        for (int file = 0; file < 6; file++) {
            for (int name = 0; name < 4; name++) {
                if (below(12) == 0) continue;
                call("state", file, name < 2 ? 0 : 3, name, name < 2 ? below(3) : 0, 0);
            }
        }
        for (int i = 0; i < 50; i++) soundStatement();
        for (int i = 0; i < 200 && pair.left() > 100; i++) {
            if (below(3) == 0) soundStatement();
            else if (below(6) == 0) call("unstate", below(6), near(8));
            else if (below(6) == 0) call("numberFrom", target(), near(6), below(4));
            else askRules();
        }
    }

    /** Mostly one that reads what is there: names 0 and 1 are numbers, 2 and 3 lists, of files with lower numbers. */
    private void soundStatement() {
        int file = below(6);
        int kind = below(3) == 0 ? 4 : below(3) == 0 ? 1 : below(7);
        int n = kind == 3 || kind == 4 ? 2 + below(2) : below(30) == 0 ? below(8) : below(2);
        int m = below(30) == 0 ? below(8) : kind == 5 && n >= 2 ? 2 + below(2) : below(2);
        if (kind == 0) m = coin() ? 0 : below(1000);
        if (kind == 3 || kind == 6) m = 0;
        if (kind == 1 || kind == 5) n = m;
        if (kind == 1 && coin()) n = m = 2 + below(2);
        int from = kind == 1 ? below(20) == 0 || file == 0 ? below(6) : below(file) : 0;
        Object size = call("state", file, kind, n, m, from);
        Object failure = pair.ask("ruleFailure", file, 0);
        if (size instanceof Integer && !failure.equals(-1) && below(12) != 0) call("unstate", file, (Integer) size - 1);
    }

    private void askRules() {
        int file = below(6);
        switch (below(4)) {
            case 0 -> call("value", file, near(4));
            case 1 -> call("listAt", file, 2 + below(2), near(8));
            case 2 -> call("ruleFailure", file, below(6));
            default -> call("targetError", target(), below(2));
        }
    }

    // ---- what is called

    private void setUp() {
        int files = 5 + below(30);
        for (int i = 0; i < files; i++) call("write", path(), content());
        if (isNested) {
            for (int i = 0; i < 3; i++) call("pack", near(6), below(4) != 0);
        }
        int statements = below(25);
        for (int i = 0; i < statements; i++) statement();
        int chains = below(6);
        for (int i = 0; i < chains; i++) toolchain();
        for (int i = 0; i < many; i++) addTarget();
    }

    private void statement() {
        int kind = near(7);
        int n = below(4) == 0 ? near(8) : below(3);
        int m = kind == 0 ? below(3) == 0 ? 0 : content() : kind == 3 || kind == 6 ? below(30) == 0 ? 1 : 0 : below(4) == 0 ? near(8) : below(3);
        int from = kind == 1 ? below(3) == 0 ? near(6) : 3 + below(3) : below(40) == 0 ? 1 : 0;
        int file = below(3) == 0 ? near(6) : kind == 1 ? below(3) : below(6);
        call("state", file, kind, n, m, from);
    }

    private void toolchain() {
        int setting = coin() ? -1 : near(4);
        call("toolchain", near(3), setting, setting == -1 && below(20) != 0 ? 0 : near(4), below(10) == 0 ? near(100) : below(3));
    }

    private void addTarget() {
        int operation = favourite < 6 && below(3) != 0 ? favourite : near(6);
        int number = isSmall || coin() ? below(3) : content();
        Object made = call("target", isNested && below(3) == 0 ? near(6) : 0, operation, number);
        if (!(made instanceof Integer)) return;
        int target = (Integer) made;
        targetCount = Math.max(targetCount, target + 1);
        int items = below(5);
        for (int i = 0; i < items; i++) item(target);
        if (coin()) call("work", target, below(3) == 0 ? near(3) : 0, below(20) == 0 ? near(22) : 1 + below(20), below(3) == 0);
        if (below(4) == 0) changeTarget(target);
        if (below(3) == 0) call("shards", target, near(5), below(3) == 0 ? 0 : near(10));
    }

    private void item(int target) {
        int kind = below(6);
        if (kind == 0) call("source", target, path());
        else if (kind == 1) call("glob", target, below(20) == 0 ? near(256) : coin() ? 1 << below(8) : below(256), coin());
        else call("depend", target, target > 0 && below(30) != 0 ? coin() ? below(target) : Math.max(0, target - 1 - below(3)) : target());
    }

    private void changeTarget(int target) {
        switch (below(9)) {
            case 0 -> call("numberFrom", target, near(6), below(3));
            case 1, 2 -> call("choose", target, near(4), near(4), content());
            case 3 -> call("uses", target, near(4) - 1);
            case 4, 5 -> call("transit", target, near(5) - 1, near(4));
            case 6 -> call("drop", target);
            case 7 -> call("work", target, near(3), 1 + below(20), coin());
            default -> item(target);
        }
    }

    private void change() {
        switch (below(20)) {
            case 0, 1, 2, 3, 4, 5 -> call("write", path(), content());
            case 6 -> call("erase", path());
            case 7 -> call("pack", near(6), coin());
            case 8 -> statement();
            case 9 -> call("unstate", near(6), near(6));
            case 10, 11, 12 -> call("setting", near(4), near(4));
            case 13 -> toolchain();
            case 14 -> call("untool", near(4));
            case 15 -> call("workers", near(3), near(5));
            case 16 -> call("sandbox", below(3) != 0);
            case 17 -> call("far", below(3) != 0, below(4) == 0 ? near(10) : 1 + below(9));
            case 18 -> call("forget", coin());
            default -> loseSome();
        }
    }

    private void loseSome() {
        if (coin()) {
            call("lose", content());
            return;
        }
        for (int i = 0; i < 4; i++) {
            Object got = call("output", target());
            if (got instanceof Integer && (Integer) got >= 0) call("lose", got);
        }
    }

    private void build() {
        int count = targetCount;
        int set = below(4) == 0 ? below(1 << count) : below(3) == 0 ? (1 << count) - 1 : 1 << below(Math.max(count, 1));
        if (below(60) == 0) set = random.nextInt();
        call("build", set, below(4) != 0, below(4) == 0 ? 1 + below(25) : below(80) == 0 ? near(1000) : 0);
        tell();
    }

    private void tell() {
        for (int i = 0; i < 12; i++) if (below(3) == 0) call("told", i);
        call("failedFirst");
        int deep = below(4);
        for (int i = 0; i <= deep; i++) call("critical", i);
        call("actions");
        int number = (Integer) pair.ask("actions");
        for (int i = 0; i < 5; i++) call("became", near(number), near(3));
    }

    private void test() {
        int target = target();
        if (below(3) == 0) call("shards", target, 1 + below(4), below(10));
        if (below(4) == 0) call("seed", below(5) == 0 ? random.nextInt() : below(1000));
        call("test", target);
        call("tries");
        for (int i = 0; i < 3; i++) call("shard", target, near(4));
        call("told", 0);
    }

    private void ask() {
        int number = (Integer) pair.ask("actions");
        switch (below(16)) {
            case 0 -> call("packageOf", near(48));
            case 1 -> call("globbed", near(6), coin() ? 255 : near(256), coin());
            case 2 -> call("value", near(6), near(8));
            case 3 -> call("listAt", near(6), below(3), near(9));
            case 4 -> call("ruleFailure", near(6), near(5));
            case 5 -> call("targetError", target(), near(4));
            case 6 -> call("entries", coin());
            case 7 -> call("actionOf", target());
            case 8 -> call("input", near(number), near(6));
            case 9 -> call("found", near(number), near(4));
            case 10 -> call("output", target());
            case 11 -> call("outputFromNothing", target());
            case 12 -> call("someWay", target(), target(), near(4));
            case 13 -> call("allWays", target(), target());
            case 14 -> call("above", target());
            default -> call("became", near(number), near(3));
        }
    }
}
