import java.util.Arrays;

/** A build system in one object; ../shared/DOC.md says what every call does. */
public final class Buildmill {
    public static final int NONE = -1;
    public static final int IS_LIST = -2;
    public static final int SET = 0, LOAD = 1, ADD = 2, LIST = 3, PUSH = 4, SHARE = 5, WHEN = 6;
    public static final int UNSET = 1, KIND = 2, FROZEN = 3, FULL = 4, CYCLE = 5, LOADED = 6;
    public static final int JOIN = 0, STRIP = 1, MOST = 2, TALLY = 3, CHECK = 4, INCLUDE = 5;
    public static final int NO_PACKAGE = 1, NO_RULE = 2, NO_TOOL = 3, CROSSES = 4, MISSING = 5, DEPENDS = 6, TOO_MANY = 7;
    public static final int UP_TO_DATE = 0, NEAR = 1, FROM_FAR = 2, RAN = 3, RAN_FAR = 4, FAILED = 5, SKIPPED = 6, CANCELLED = 7;
    public static final int PASSED = 0, FLAKY = 1, BROKEN = 2;

    private static final int PATHS = 48;
    private static final int DIRECTORIES = 6;
    private static final int RULE_FILES = 6;
    private static final int STATEMENTS = 12;
    private static final int NAMES = 8;
    private static final int LIST_SIZE = 8;
    private static final int SETTINGS = 4;
    private static final int VALUES = 4;
    private static final int TYPES = 3;
    private static final int TOOLCHAINS = 8;
    private static final int TARGETS = 16;
    private static final int ITEMS = 6;
    private static final int CONDITIONS = 4;
    private static final int SHARDS = 4;
    private static final int CONFIGURATIONS = 256;
    private static final int NODES = TARGETS * CONFIGURATIONS;
    private static final int CONTENTS = 1000;
    private static final int INPUTS = 40;
    private static final int ACTIONS = 120;
    private static final int FIRST_ACTION = 100;
    private static final int KINDS = 3;
    private static final int WORKERS = 4;
    private static final int FIGURES = 12;
    private static final int AGAIN = 9, FETCHED = 10, LOOKED_AT_MORE = 11;
    private static final int OVERFULL = -2;
    private static final int NEVER = 2147483647;
    private static final int TRIES = 3;

    private final Disk files = new Disk();
    private final Rules rules = new Rules();
    private final Tools tools = new Tools();
    private final Targets targets = new Targets();
    private final Plan plan = new Plan(files, rules, tools, targets);
    private final Mill mill = new Mill(files, plan);
    private int triesMade;
    private long draws = 1;

    public Buildmill() {
    }

    // ---- guards

    private static void needPlace(int place, int bound) throws IndexOutOfBoundsException {
        if (place < 0 || place >= bound) {
            throw new IndexOutOfBoundsException();
        }
    }

    private static void needNotBelowZero(int place) throws IndexOutOfBoundsException {
        if (place < 0) {
            throw new IndexOutOfBoundsException();
        }
    }

    private static void needRange(int number, int least, int most) throws IllegalArgumentException {
        if (number < least || number > most) {
            throw new IllegalArgumentException();
        }
    }

    private static void needState(boolean holds) throws IllegalStateException {
        if (!holds) {
            throw new IllegalStateException();
        }
    }

    private static int read(int[] row, int place) {
        return place >= 0 && place < row.length ? row[place] : NONE;
    }

    private static void store(int[] row, int place, int value) {
        if (place >= 0 && place < row.length) {
            row[place] = value;
        }
    }

    /** Closes the gap that a number taken out of a row leaves. */
    private static void closeGap(int[] row, int gap, int end) {
        for (int place = gap; place + 1 < end; place++) {
            store(row, place, read(row, place + 1));
        }
    }

    // ---- files, packages

    public int write(int path, int content) throws IndexOutOfBoundsException, IllegalArgumentException {
        needPlace(path, PATHS);
        needRange(content, 0, CONTENTS - 1);
        return files.replace(path, content);
    }

    public int erase(int path) throws IndexOutOfBoundsException {
        needPlace(path, PATHS);
        return files.replace(path, NONE);
    }

    public boolean pack(int directory, boolean is) throws IndexOutOfBoundsException, IllegalStateException {
        needPlace(directory, DIRECTORIES);
        needState(directory != 0);
        return files.makePackage(directory, is);
    }

    public int packageOf(int path) throws IndexOutOfBoundsException {
        needPlace(path, PATHS);
        return files.ownerOf(path);
    }

    public long globbed(int directory, int names, boolean isDeep) throws IndexOutOfBoundsException, IllegalArgumentException, IllegalStateException {
        needPlace(directory, DIRECTORIES);
        needRange(names, 0, 255);
        needState(files.isPackage(directory));
        return files.globPaths(directory, names, isDeep);
    }

    // ---- rule files

    public int state(int file, int kind, int n, int m, int from) throws IndexOutOfBoundsException, IllegalArgumentException, IllegalStateException {
        needPlace(file, RULE_FILES);
        needPlace(n, NAMES);
        boolean readsName = kind == LOAD || kind == ADD || kind == PUSH || kind == SHARE;
        if (readsName) {
            needPlace(m, NAMES);
        }
        if (kind == LOAD) {
            needPlace(from, RULE_FILES);
        }
        needRange(kind, SET, WHEN);
        if (!readsName) {
            needRange(m, 0, kind == SET ? CONTENTS - 1 : 0);
        }
        if (kind != LOAD) {
            needRange(from, 0, 0);
        }
        needState(rules.size(file) < STATEMENTS);
        return rules.append(file, kind, n, m, from);
    }

    public int unstate(int file, int statement) throws IndexOutOfBoundsException {
        needPlace(file, RULE_FILES);
        needPlace(statement, rules.size(file));
        return rules.remove(file, statement);
    }

    public int value(int file, int name) throws IndexOutOfBoundsException {
        needPlace(file, RULE_FILES);
        needPlace(name, NAMES);
        return rules.valueOf(file, name);
    }

    public int listAt(int file, int name, int place) throws IndexOutOfBoundsException {
        needPlace(file, RULE_FILES);
        needPlace(name, NAMES);
        needNotBelowZero(place);
        return rules.numberInList(file, name, place);
    }

    public int ruleFailure(int file, int depth) throws IndexOutOfBoundsException {
        needPlace(file, RULE_FILES);
        needNotBelowZero(depth);
        return rules.failure(file, depth);
    }

    // ---- settings, toolchains

    public int setting(int setting, int value) throws IndexOutOfBoundsException, IllegalArgumentException {
        needPlace(setting, SETTINGS);
        needRange(value, 0, VALUES - 1);
        return tools.change(setting, value);
    }

    public int toolchain(int type, int setting, int value, int version) throws IndexOutOfBoundsException, IllegalArgumentException, IllegalStateException {
        if (setting != NONE) {
            needPlace(setting, SETTINGS);
        }
        needRange(type, 0, TYPES - 1);
        needRange(value, 0, setting == NONE ? 0 : VALUES - 1);
        needRange(version, 0, 99);
        needState(tools.count < TOOLCHAINS);
        return tools.append(type, setting, value, version);
    }

    public int untool(int toolchain) throws IndexOutOfBoundsException {
        needPlace(toolchain, tools.count);
        return tools.remove(toolchain);
    }

    // ---- targets

    public int target(int directory, int operation, int number) throws IndexOutOfBoundsException, IllegalArgumentException, IllegalStateException {
        needPlace(directory, DIRECTORIES);
        needRange(operation, JOIN, INCLUDE);
        needRange(number, 0, CONTENTS - 1);
        needState(targets.count < TARGETS);
        return targets.append(directory, operation, number);
    }

    public void numberFrom(int target, int file, int name) throws IndexOutOfBoundsException {
        needPlace(target, targets.count);
        needPlace(file, RULE_FILES);
        needPlace(name, NAMES);
        targets.at(target).ruleAt = file * NAMES + name;
    }

    public int choose(int target, int setting, int value, int number) throws IndexOutOfBoundsException, IllegalArgumentException, IllegalStateException {
        needPlace(target, targets.count);
        needPlace(setting, SETTINGS);
        needRange(value, 0, VALUES - 1);
        needRange(number, 0, CONTENTS - 1);
        needState(targets.at(target).conditionCount < CONDITIONS);
        return targets.at(target).addCondition(setting, value, number);
    }

    public int source(int target, int path) throws IndexOutOfBoundsException, IllegalStateException {
        needPlace(target, targets.count);
        needPlace(path, PATHS);
        needState(targets.at(target).itemCount < ITEMS);
        return targets.at(target).addItem(path);
    }

    public int glob(int target, int names, boolean isDeep) throws IndexOutOfBoundsException, IllegalArgumentException, IllegalStateException {
        needPlace(target, targets.count);
        needRange(names, 0, 255);
        needState(targets.at(target).itemCount < ITEMS);
        return targets.at(target).addItem(Target.FIRST_GLOB + names * 2 + (isDeep ? 1 : 0));
    }

    public int depend(int target, int other) throws IndexOutOfBoundsException, IllegalArgumentException, IllegalStateException {
        needPlace(target, targets.count);
        needPlace(other, targets.count);
        needRange(other, 0, target - 1);
        needState(targets.at(target).itemCount < ITEMS);
        return targets.at(target).addItem(Target.FIRST_TARGET + other);
    }

    public int drop(int target) throws IndexOutOfBoundsException, IllegalStateException {
        needPlace(target, targets.count);
        needState(targets.at(target).itemCount > 0);
        return targets.at(target).dropItem();
    }

    public int uses(int target, int type) throws IndexOutOfBoundsException, IllegalArgumentException {
        needPlace(target, targets.count);
        needRange(type, NONE, TYPES - 1);
        int before = targets.at(target).type;
        targets.at(target).type = type;
        return before;
    }

    public void transit(int target, int setting, int value) throws IndexOutOfBoundsException, IllegalArgumentException {
        needPlace(target, targets.count);
        if (setting != NONE) {
            needPlace(setting, SETTINGS);
        }
        needRange(value, 0, setting == NONE ? 0 : VALUES - 1);
        targets.at(target).setTransition(setting, value);
    }

    public void work(int target, int kind, int duration, boolean isBoth) throws IndexOutOfBoundsException, IllegalArgumentException {
        needPlace(target, targets.count);
        needPlace(kind, KINDS);
        needRange(duration, 1, 20);
        targets.at(target).setWork(kind, duration, isBoth);
    }

    public void shards(int target, int shards, int luck) throws IndexOutOfBoundsException, IllegalArgumentException {
        needPlace(target, targets.count);
        needRange(shards, 0, SHARDS);
        needRange(luck, 0, 9);
        targets.at(target).shardCount = shards;
        targets.at(target).luck = luck;
    }

    public int targetError(int target, int depth) throws IndexOutOfBoundsException {
        needPlace(target, targets.count);
        needNotBelowZero(depth);
        plan.takeRuleNumbers();
        return plan.errorOf(target, depth);
    }

    // ---- how it is built

    public int workers(int kind, int many) throws IndexOutOfBoundsException, IllegalArgumentException {
        needPlace(kind, KINDS);
        needRange(many, 1, WORKERS);
        return mill.crew.resize(kind, many);
    }

    public boolean sandbox(boolean isOn) {
        boolean before = files.isSandboxed;
        files.isSandboxed = isOn;
        return before;
    }

    public boolean far(boolean canBeReached, int latency) throws IllegalArgumentException {
        needRange(latency, 1, 9);
        boolean before = mill.isFarReached;
        mill.isFarReached = canBeReached;
        mill.latency = latency;
        return before;
    }

    public boolean lose(int content) throws IllegalArgumentException {
        needRange(content, 0, CONTENTS - 1);
        return mill.far.loseBytes(content);
    }

    public int forget(boolean isFar) {
        return isFar ? mill.far.clear() : mill.near.clear();
    }

    public int entries(boolean isFar) {
        return isFar ? mill.far.count : mill.near.count;
    }

    // ---- builds

    public int build(int targets, boolean goesOn, int limit) throws IndexOutOfBoundsException, IllegalArgumentException, IllegalStateException {
        needPlace(targets - 1, (1 << this.targets.count) - 1);
        needRange(limit, 0, 999);
        plan.takeRuleNumbers();
        int done = mill.run(targets, goesOn, limit);
        needState(done != OVERFULL);
        return done;
    }

    public int told(int what) throws IllegalArgumentException {
        needRange(what, 0, FIGURES - 1);
        return read(mill.figures, what);
    }

    public int failedFirst() {
        return mill.firstFailed;
    }

    public int critical(int place) throws IndexOutOfBoundsException {
        needNotBelowZero(place);
        return mill.criticalAt(place);
    }

    public int actions() {
        return plan.count;
    }

    public int actionOf(int target) throws IndexOutOfBoundsException {
        needPlace(target, targets.count);
        plan.takeRuleNumbers();
        return plan.knownAction(target);
    }

    public int input(int action, int input) throws IndexOutOfBoundsException {
        needPlace(action, plan.count);
        needNotBelowZero(input);
        return plan.actionAt(action).inputAt(input);
    }

    public int became(int action, int what) throws IndexOutOfBoundsException, IllegalArgumentException {
        needPlace(action, plan.count);
        needRange(what, 0, 2);
        return plan.actionAt(action).tell(what);
    }

    public int found(int action, int place) throws IndexOutOfBoundsException {
        needPlace(action, plan.count);
        needNotBelowZero(place);
        return plan.actionAt(action).kept.foundAt(place);
    }

    public int output(int target) throws IndexOutOfBoundsException {
        needPlace(target, targets.count);
        plan.takeRuleNumbers();
        int action = plan.knownAction(target);
        return action == NONE ? NONE : plan.actionAt(action).kept.content;
    }

    public int outputFromNothing(int target) throws IndexOutOfBoundsException {
        needPlace(target, targets.count);
        plan.takeRuleNumbers();
        return plan.contentFromNothing(target);
    }

    // ---- tests

    public int test(int target) throws IndexOutOfBoundsException, IllegalStateException {
        needPlace(target, targets.count);
        Target tested = targets.at(target);
        needState(tested.shardCount > 0);
        plan.takeRuleNumbers();
        int done = mill.run(1 << target, false, 0);
        needState(done != OVERFULL);
        triesMade = 0;
        return done == 1 ? goThroughShards(tested, plan.actionMadeFor(target).now.content) : NONE;
    }

    private int goThroughShards(Target tested, int content) {
        int passed = 0;
        for (int shard = 0; shard < SHARDS; shard++) {
            int fate = NONE;
            if (shard < tested.shardCount) {
                boolean isSound = (content + shard) % 4 != 3;
                fate = tested.luck == 0 ? tryOnce(tested, content * SHARDS + shard, isSound) : tryLuck(tested.luck, isSound);
            }
            store(tested.fates, shard, fate);
            passed += fate == PASSED ? 1 : 0;
        }
        return passed;
    }

    private int tryOnce(Target tested, int trial, boolean isSound) {
        if (tested.noteTrial(trial)) {
            triesMade++;
        }
        return isSound ? PASSED : BROKEN;
    }

    private int tryLuck(int luck, boolean isSound) {
        for (int attempt = 0; attempt < TRIES; attempt++) {
            triesMade++;
            draws = (draws * 1103515245L + 12345L) % 2147483648L;
            if (draws / 65536 % 10 >= luck && isSound) {
                return attempt == 0 ? PASSED : FLAKY;
            }
        }
        return BROKEN;
    }

    public int shard(int target, int shard) throws IndexOutOfBoundsException {
        needPlace(target, targets.count);
        needPlace(shard, SHARDS);
        return read(targets.at(target).fates, shard);
    }

    public int tries() {
        return triesMade;
    }

    public void seed(int seed) throws IllegalArgumentException {
        needRange(seed, 0, 2147483647);
        draws = seed;
    }

    // ---- queries over the targets that are items of targets

    public int someWay(int target, int other, int place) throws IndexOutOfBoundsException {
        needPlace(target, targets.count);
        needPlace(other, targets.count);
        needNotBelowZero(place);
        return targets.onShortestWay(target, other, place);
    }

    public int allWays(int target, int other) throws IndexOutOfBoundsException {
        needPlace(target, targets.count);
        needPlace(other, targets.count);
        int under = targets.under(target);
        return (under >> other & 1) == 0 ? 0 : under & targets.over(other);
    }

    public int above(int target) throws IndexOutOfBoundsException {
        needPlace(target, targets.count);
        return targets.over(target);
    }

    /** The paths with their files, and which directories are packages. */
    private static final class Disk {
        private static final int[] PARENTS = {0, 0, 0, 1, 1, 2};

        private final int[] contents = new int[PATHS];
        private final boolean[] packages = new boolean[DIRECTORIES];
        private final int[] owners = new int[DIRECTORIES];
        boolean isSandboxed = true;

        Disk() {
            Arrays.fill(contents, NONE);
        }

        int contentAt(int path) {
            return path >= 0 && path < contents.length ? contents[path] : NONE;
        }

        int replace(int path, int content) {
            int before = contentAt(path);
            store(contents, path, content);
            return before;
        }

        boolean isPackage(int directory) {
            return directory == 0 || directory > 0 && directory < packages.length && packages[directory];
        }

        boolean makePackage(int directory, boolean is) {
            boolean before = isPackage(directory);
            if (directory > 0 && directory < packages.length) {
                packages[directory] = is;
            }
            for (int inner = 1; inner < DIRECTORIES; inner++) {
                store(owners, inner, isPackage(inner) ? inner : read(owners, read(PARENTS, inner)));
            }
            return before;
        }

        int ownerOf(int path) {
            int directory = path >> 3;
            return directory >= 0 && directory < owners.length ? owners[directory] : NONE;
        }

        long globPaths(int directory, int names, boolean isDeep) {
            long paths = 0;
            for (int path = 0; path < PATHS; path++) {
                boolean isIn = (isDeep ? ownerOf(path) : path >> 3) == directory;
                if (isIn && (names >> (path & 7) & 1) == 1 && contentAt(path) != NONE) {
                    paths |= 1L << path;
                }
            }
            return paths;
        }
    }

    /**
     * The rule files and the last one that was evaluated. What a name has is NONE, a number, or
     * FIRST_LIST and a list. The files that are being evaluated are a stack; if one fails, all
     * below it fail with it, so that the stack that is left is the chain of causes.
     */
    private static final class Rules {
        private static final int FRESH = 0, ACTIVE = 1, DONE = 2;
        private static final int FIRST_LIST = 1000;
        private static final int MOST_STEPS = 10000;

        private final int[] sizes = new int[RULE_FILES];
        private final int[] kinds = new int[RULE_FILES * STATEMENTS];
        private final int[] firsts = new int[RULE_FILES * STATEMENTS];
        private final int[] seconds = new int[RULE_FILES * STATEMENTS];
        private final int[] origins = new int[RULE_FILES * STATEMENTS];

        private final int[] things = new int[RULE_FILES * NAMES];
        private final int[] marks = new int[RULE_FILES];
        private final int[] places = new int[RULE_FILES];
        private final int[] stack = new int[RULE_FILES];
        private final int[] listSizes = new int[RULE_FILES * STATEMENTS];
        private final int[] makers = new int[RULE_FILES * STATEMENTS];
        private final int[] numbers = new int[RULE_FILES * STATEMENTS * LIST_SIZE];
        private int listCount;
        private int depth;
        private int reason = NONE;
        private int evaluated = NONE;

        int size(int file) {
            return read(sizes, file);
        }

        int append(int file, int kind, int n, int m, int from) {
            int at = file * STATEMENTS + size(file);
            store(kinds, at, kind);
            store(firsts, at, n);
            store(seconds, at, m);
            store(origins, at, from);
            return resize(file, 1);
        }

        int remove(int file, int statement) {
            int gap = file * STATEMENTS + statement;
            int end = file * STATEMENTS + size(file);
            closeGap(kinds, gap, end);
            closeGap(firsts, gap, end);
            closeGap(seconds, gap, end);
            closeGap(origins, gap, end);
            return resize(file, -1);
        }

        private int resize(int file, int more) {
            store(sizes, file, size(file) + more);
            evaluated = NONE;
            return size(file);
        }

        int valueOf(int file, int name) {
            evaluate(file);
            int thing = result(file, name);
            return thing >= FIRST_LIST ? IS_LIST : thing;
        }

        int numberOf(int file, int name) {
            evaluate(file);
            int thing = result(file, name);
            return thing >= FIRST_LIST ? NONE : thing;
        }

        int numberInList(int file, int name, int place) {
            evaluate(file);
            int list = result(file, name) - FIRST_LIST;
            return list >= 0 && place < read(listSizes, list) ? read(numbers, list * LIST_SIZE + place) : NONE;
        }

        int failure(int file, int cause) {
            evaluate(file);
            if (reason == NONE || cause >= depth) {
                return NONE;
            }
            int failing = read(stack, cause);
            return failing * 1000 + read(places, failing) * 10 + (cause == depth - 1 ? reason : LOADED);
        }

        private int result(int file, int name) {
            return reason == NONE ? thing(file, name) : NONE;
        }

        private int thing(int file, int name) {
            return read(things, file * NAMES + name);
        }

        // What was found stays true until a statement comes or goes.
        private void evaluate(int file) {
            if (file == evaluated) {
                return;
            }
            evaluated = file;
            Arrays.fill(things, NONE);
            Arrays.fill(marks, FRESH);
            Arrays.fill(places, 0);
            listCount = 0;
            depth = 0;
            reason = NONE;
            enter(file);
            for (int step = 0; step < MOST_STEPS && depth > 0 && reason == NONE; step++) {
                goOn(read(stack, depth - 1));
            }
        }

        private void enter(int file) {
            store(marks, file, ACTIVE);
            store(stack, depth, file);
            depth++;
        }

        private void goOn(int file) {
            int place = read(places, file);
            int at = file * STATEMENTS + place;
            if (place >= read(sizes, file)) {
                store(marks, file, DONE);
                depth--;
            } else if (read(kinds, at) == LOAD && read(marks, read(origins, at)) == FRESH) {
                enter(read(origins, at));
            } else {
                reason = whyFailing(file, at);
                if (reason == NONE) {
                    store(places, file, place + 1);
                    perform(file, at);
                }
            }
        }

        private int whyFailing(int file, int at) {
            int kind = read(kinds, at);
            int n = thing(file, read(firsts, at));
            int m = kind == SET ? NONE : thing(file, read(seconds, at));
            switch (kind) {
                case LOAD:
                    if (read(marks, read(origins, at)) == ACTIVE) {
                        return CYCLE;
                    }
                    return thing(read(origins, at), read(seconds, at)) == NONE ? UNSET : NONE;
                case ADD:
                    if (n == NONE || m == NONE) {
                        return UNSET;
                    }
                    return n >= FIRST_LIST || m >= FIRST_LIST ? KIND : NONE;
                case PUSH:
                    return whyNotPushed(file, n, m);
                case SHARE:
                    return m == NONE ? UNSET : NONE;
                case WHEN:
                    if (n == NONE) {
                        return UNSET;
                    }
                    return n >= FIRST_LIST ? KIND : NONE;
                default:
                    return NONE;
            }
        }

        private int whyNotPushed(int file, int n, int m) {
            if (n == NONE || m == NONE) {
                return UNSET;
            }
            if (n < FIRST_LIST || m >= FIRST_LIST) {
                return KIND;
            }
            if (read(makers, n - FIRST_LIST) != file) {
                return FROZEN;
            }
            return read(listSizes, n - FIRST_LIST) >= LIST_SIZE ? FULL : NONE;
        }

        private void perform(int file, int at) {
            int n = file * NAMES + read(firsts, at);
            int m = read(seconds, at);
            switch (read(kinds, at)) {
                case SET:
                    store(things, n, m);
                    break;
                case LOAD:
                    store(things, n, thing(read(origins, at), m));
                    break;
                case ADD:
                    store(things, n, (read(things, n) + thing(file, m)) % 1000);
                    break;
                case LIST:
                    store(things, n, FIRST_LIST + makeList(file));
                    break;
                case PUSH:
                    push(read(things, n) - FIRST_LIST, thing(file, m));
                    break;
                case SHARE:
                    store(things, n, thing(file, m));
                    break;
                default:
                    store(places, file, read(places, file) + (read(things, n) == 0 ? 1 : 0));
            }
        }

        private int makeList(int file) {
            int list = listCount;
            store(makers, list, file);
            store(listSizes, list, 0);
            listCount++;
            return list;
        }

        private void push(int list, int number) {
            int size = read(listSizes, list);
            store(numbers, list * LIST_SIZE + size, number);
            store(listSizes, list, size + 1);
        }
    }

    /** The settings, two bits each as one configuration, and the row of toolchains. */
    private static final class Tools {
        int configuration;
        int count;
        private final int[] types = new int[TOOLCHAINS];
        private final int[] needs = new int[TOOLCHAINS];
        private final int[] values = new int[TOOLCHAINS];
        private final int[] versions = new int[TOOLCHAINS];

        static int valueIn(int configuration, int setting) {
            return configuration >> (2 * setting & 7) & 3;
        }

        static int changed(int configuration, int setting, int value) {
            int shift = 2 * setting & 7;
            return configuration & ~(3 << shift) | value << shift;
        }

        int change(int setting, int value) {
            int before = valueIn(configuration, setting);
            configuration = changed(configuration, setting, value);
            return before;
        }

        int append(int type, int setting, int value, int version) {
            store(types, count, type);
            store(needs, count, setting);
            store(values, count, value);
            store(versions, count, version);
            count++;
            return count;
        }

        int remove(int toolchain) {
            closeGap(types, toolchain, count);
            closeGap(needs, toolchain, count);
            closeGap(values, toolchain, count);
            closeGap(versions, toolchain, count);
            count--;
            return count;
        }

        /** The version to which a type is resolved; NONE if it is not. */
        int resolve(int type, int within) {
            for (int place = 0; place < count; place++) {
                int need = read(needs, place);
                boolean holds = need == NONE || valueIn(within, need) == read(values, place);
                if (holds && read(types, place) == type) {
                    return read(versions, place);
                }
            }
            return NONE;
        }
    }

    /**
     * A target. An item is a path, or FIRST_TARGET and a target, or FIRST_GLOB and twice the
     * names, and one more if the glob is deep. A condition is its setting, value and number in one.
     */
    private static final class Target {
        static final int FIRST_TARGET = 100;
        static final int FIRST_GLOB = 1000;

        final int directory;
        final int operation;
        private final int number;
        int ruleAt = NONE;
        int ruleNumber = NONE;
        int type = NONE;
        private int settingsKept = CONFIGURATIONS - 1;
        private int settingsMoved;
        int kind;
        int duration = 1;
        boolean isBoth;
        int shardCount;
        int luck;
        int itemCount;
        int conditionCount;
        private final int[] items = new int[ITEMS];
        private final int[] conditions = new int[CONDITIONS];
        final int[] fates = new int[SHARDS];
        private final long[] trials = new long[(CONTENTS * SHARDS >> 6) + 1];

        Target(int directory, int operation, int number) {
            this.directory = directory;
            this.operation = operation;
            this.number = number;
            Arrays.fill(fates, NONE);
        }

        int addItem(int item) {
            store(items, itemCount, item);
            itemCount++;
            return itemCount;
        }

        int dropItem() {
            itemCount--;
            return itemCount;
        }

        int itemAt(int place) {
            return place < itemCount ? read(items, place) : NONE;
        }

        int addCondition(int setting, int value, int chosen) {
            store(conditions, conditionCount, (setting * VALUES + value) * 1000 + chosen);
            conditionCount++;
            return conditionCount;
        }

        void setTransition(int setting, int value) {
            settingsKept = setting == NONE ? CONFIGURATIONS - 1 : Tools.changed(CONFIGURATIONS - 1, setting, 0);
            settingsMoved = setting == NONE ? 0 : Tools.changed(0, setting, value);
        }

        void setWork(int workerKind, int time, boolean inBothWays) {
            kind = workerKind;
            duration = time;
            isBoth = inBothWays;
        }

        /** Its number in a configuration; NONE if that is to come from a rule file and does not. */
        int numberIn(int configuration) {
            for (int place = 0; place < conditionCount; place++) {
                int condition = read(conditions, place);
                int wanted = condition / 1000 % VALUES;
                if (Tools.valueIn(configuration, condition / 1000 / VALUES) == wanted) {
                    return condition % 1000;
                }
            }
            return ruleAt == NONE ? number : ruleNumber;
        }

        /** The configuration of the targets among its items. */
        int below(int configuration) {
            return configuration & settingsKept | settingsMoved;
        }

        /** Keeps that a shard was tried with a content; tells whether it had not been. */
        boolean noteTrial(int trial) {
            int place = trial >> 6;
            if (place < 0 || place >= trials.length) {
                return false;
            }
            boolean isNew = (trials[place] >> trial & 1) == 0;
            trials[place] |= 1L << trial;
            return isNew;
        }
    }

    /** The row of targets, and what lies below what in it. */
    private static final class Targets {
        int count;
        private final Target[] row = new Target[TARGETS];
        private final Target spare = new Target(0, JOIN, 0);
        private final int[] distances = new int[TARGETS];

        Target at(int number) {
            Target target = number >= 0 && number < row.length ? row[number] : null;
            return target == null ? spare : target;
        }

        int append(int directory, int operation, int number) {
            if (count < row.length) {
                row[count] = new Target(directory, operation, number);
                count++;
            }
            return count - 1;
        }

        private int itemTargets(int number) {
            Target target = at(number);
            int mask = 0;
            for (int place = 0; place < target.itemCount; place++) {
                int item = target.itemAt(place);
                if (item >= Target.FIRST_TARGET && item < Target.FIRST_GLOB) {
                    mask |= 1 << item - Target.FIRST_TARGET;
                }
            }
            return mask;
        }

        int under(int number) {
            int mask = 1 << number;
            for (int inner = number; inner >= 0; inner--) {
                if ((mask >> inner & 1) == 1) {
                    mask |= itemTargets(inner);
                }
            }
            return mask;
        }

        int over(int number) {
            int mask = 1 << number;
            for (int outer = number + 1; outer < count; outer++) {
                if ((itemTargets(outer) & mask) != 0) {
                    mask |= 1 << outer;
                }
            }
            return mask;
        }

        int onShortestWay(int target, int other, int place) {
            measure(other);
            int length = read(distances, target);
            if (length == NONE || place > length) {
                return NONE;
            }
            int reached = target;
            for (int step = 0; step < place; step++) {
                reached = firstAt(length - step - 1, itemTargets(reached));
            }
            return reached;
        }

        /** How far each target is above the other one; items have lower numbers, so rising numbers do. */
        private void measure(int other) {
            Arrays.fill(distances, NONE);
            store(distances, other, 0);
            for (int outer = other + 1; outer < count; outer++) {
                int mask = itemTargets(outer);
                for (int inner = other; inner < outer; inner++) {
                    int way = (mask >> inner & 1) == 1 ? read(distances, inner) : NONE;
                    int best = read(distances, outer);
                    if (way != NONE && (best == NONE || way + 1 < best)) {
                        store(distances, outer, way + 1);
                    }
                }
            }
        }

        private int firstAt(int distance, int mask) {
            for (int inner = 0; inner < count; inner++) {
                if ((mask >> inner & 1) == 1 && read(distances, inner) == distance) {
                    return inner;
                }
            }
            return NONE;
        }
    }

    /**
     * Configured targets and actions. A node is a target times CONFIGURATIONS and a configuration;
     * walk() puts nodes into an order in which those of the items come ahead, and finds their faults.
     */
    private static final class Plan {
        private static final int MOST_STEPS = 100000;
        private static final int FAULTS = 8;

        private final Disk files;
        private final Rules rules;
        private final Tools tools;
        private final Targets targets;
        private final int[] marks = new int[NODES];
        private final int[] order = new int[NODES];
        private final int[] faults = new int[NODES];
        private final int[] made = new int[NODES];
        private final int[] stack = new int[TARGETS];
        private final int[] places = new int[TARGETS];
        private int mark;
        private int orderCount;
        private int depth;
        int count;
        private final Action[] actions = new Action[ACTIONS + 1];
        private final Action spare = new Action();

        Plan(Disk files, Rules rules, Tools tools, Targets targets) {
            this.files = files;
            this.rules = rules;
            this.tools = tools;
            this.targets = targets;
        }

        // Ahead of each walk over new facts, and not within it, so that calls stay shallow.
        void takeRuleNumbers() {
            for (int number = 0; number < targets.count; number++) {
                Target target = targets.at(number);
                int at = target.ruleAt;
                target.ruleNumber = at == NONE ? NONE : rules.numberOf(at >> 3, at & 7);
            }
        }

        private int nodeOf(int target) {
            return target * CONFIGURATIONS + tools.configuration;
        }

        private void startWalk() {
            mark++;
            orderCount = 0;
        }

        private void walk(int root) {
            depth = 0;
            enter(root);
            for (int step = 0; step < MOST_STEPS && depth > 0; step++) {
                int node = read(stack, depth - 1);
                int place = read(places, depth - 1);
                Target target = targets.at(node >> 8);
                if (place < target.itemCount) {
                    store(places, depth - 1, place + 1);
                    enter(itemNode(target, node, target.itemAt(place)));
                } else {
                    store(faults, node, faultOf(target, node));
                    store(order, orderCount, node);
                    orderCount++;
                    depth--;
                }
            }
        }

        private void enter(int node) {
            if (node != NONE && read(marks, node) != mark) {
                store(marks, node, mark);
                store(stack, depth, node);
                store(places, depth, 0);
                depth++;
            }
        }

        /** The node of an item; NONE if the item is no target. */
        private int itemNode(Target target, int node, int item) {
            int inner = item - Target.FIRST_TARGET;
            return inner >= 0 && inner < TARGETS ? inner * CONFIGURATIONS + target.below(node & 255) : NONE;
        }

        /** 0, or an error, and for DEPENDS the node that is its cause FAULTS times, together. */
        private int faultOf(Target target, int node) {
            if (!files.isPackage(target.directory)) {
                return NO_PACKAGE;
            }
            if (target.numberIn(node & 255) == NONE) {
                return NO_RULE;
            }
            if (versionOf(target, node) == NONE) {
                return NO_TOOL;
            }
            int inputs = 0;
            for (int place = 0; place < target.itemCount; place++) {
                int item = target.itemAt(place);
                int fault = itemFault(target, node, item);
                if (fault != 0) {
                    return fault;
                }
                inputs += item < Target.FIRST_GLOB ? 1 : Long.bitCount(globOf(target, item));
            }
            return inputs > INPUTS ? TOO_MANY : 0;
        }

        private int versionOf(Target target, int node) {
            return target.type == NONE ? 0 : tools.resolve(target.type, node & 255);
        }

        private int itemFault(Target target, int node, int item) {
            if (item < Target.FIRST_TARGET) {
                if (files.ownerOf(item) != target.directory) {
                    return CROSSES;
                }
                return files.contentAt(item) == NONE ? MISSING : 0;
            }
            int inner = itemNode(target, node, item);
            return inner != NONE && read(faults, inner) != 0 ? DEPENDS + inner * FAULTS : 0;
        }

        private long globOf(Target target, int item) {
            int code = item - Target.FIRST_GLOB;
            return files.globPaths(target.directory, code >> 1, (code & 1) == 1);
        }

        int errorOf(int target, int cause) {
            startWalk();
            walk(nodeOf(target));
            int node = nodeOf(target);
            for (int step = 0; step < cause; step++) {
                int fault = read(faults, node);
                if (fault % FAULTS != DEPENDS) {
                    return NONE;
                }
                node = fault / FAULTS;
            }
            int error = read(faults, node) % FAULTS;
            return error == 0 ? NONE : (node >> 8) * 10 + error;
        }

        /** Those of some targets that are not in error. */
        int soundAmong(int mask) {
            startWalk();
            int sound = 0;
            for (int target = 0; target < TARGETS; target++) {
                if ((mask >> target & 1) == 1) {
                    walk(nodeOf(target));
                    sound |= read(faults, nodeOf(target)) == 0 ? 1 << target : 0;
                }
            }
            return sound;
        }

        /** Numbers the actions of sound targets; if there would be too many, it adds none. */
        boolean findActions(int sound) {
            int before = count;
            startWalk();
            for (int target = 0; target < TARGETS; target++) {
                if ((sound >> target & 1) == 1) {
                    walk(nodeOf(target));
                }
            }
            for (int place = 0; place < orderCount; place++) {
                int node = read(order, place);
                describe(node);
                int number = firstAlike();
                if (number == NONE) {
                    number = count;
                    count++;
                }
                if (count > ACTIONS) {
                    count = before;
                    return false;
                }
                store(made, node, number);
            }
            return true;
        }

        /** The first target by which an action was found now tells how it is run. */
        void markWanted() {
            for (int place = 0; place < orderCount; place++) {
                int node = read(order, place);
                Action action = actionAt(read(made, node));
                if (!action.isWanted) {
                    action.isWanted = true;
                    action.takeWork(targets.at(node >> 8));
                }
            }
        }

        /** The action of a target, configured by the settings, that was made by findActions(). */
        Action actionMadeFor(int target) {
            return actionAt(read(made, nodeOf(target)));
        }

        int knownAction(int target) {
            startWalk();
            walk(nodeOf(target));
            for (int place = 0; place < orderCount; place++) {
                int node = read(order, place);
                boolean isDescribed = read(faults, node) == 0 && describe(node);
                store(made, node, isDescribed ? firstAlike() : NONE);
            }
            return read(made, nodeOf(target));
        }

        int contentFromNothing(int target) {
            startWalk();
            walk(nodeOf(target));
            for (int place = 0; place < orderCount; place++) {
                int node = read(order, place);
                int content = NONE;
                if (read(faults, node) == 0 && describe(node)) {
                    content = contentNow(candidate());
                }
                store(made, node, content);
            }
            return read(made, nodeOf(target));
        }

        // Here what was made for the items are contents, and so are the inputs that are no paths.
        private int contentNow(Action action) {
            action.now.count = action.inputCount;
            for (int place = 0; place < action.inputCount; place++) {
                int input = action.inputAt(place);
                store(action.now.contents, place, input < FIRST_ACTION ? files.contentAt(input) : input - FIRST_ACTION);
            }
            action.now.perform(files, action.directory);
            return action.now.content;
        }

        /** Makes the candidate the action of a node; false if an item of it has made nothing. */
        private boolean describe(int node) {
            Target target = targets.at(node >> 8);
            Action action = candidate();
            action.start(target, target.numberIn(node & 255), versionOf(target, node));
            for (int place = 0; place < target.itemCount; place++) {
                int item = target.itemAt(place);
                int inner = itemNode(target, node, item);
                if (item >= Target.FIRST_GLOB) {
                    action.addPaths(globOf(target, item));
                } else if (inner == NONE) {
                    action.addPaths(1L << item);
                } else if (read(made, inner) == NONE) {
                    return false;
                } else {
                    action.addInput(FIRST_ACTION + read(made, inner));
                }
            }
            return true;
        }

        /** The action behind the last one, where the next one is tried out. */
        private Action candidate() {
            if (count < 0 || count >= actions.length) {
                return spare;
            }
            Action action = actions[count];
            if (action == null) {
                action = new Action();
                actions[count] = action;
            }
            return action;
        }

        private int firstAlike() {
            for (int number = 0; number < count; number++) {
                if (actionAt(number).isSameAs(candidate())) {
                    return number;
                }
            }
            return NONE;
        }

        Action actionAt(int number) {
            Action action = number >= 0 && number < actions.length ? actions[number] : null;
            return action == null ? spare : action;
        }
    }

    /** What was done: the facts about the inputs, what was found, and the content that came. */
    private static final class Entry {
        int operation = NONE;
        int number;
        int version;
        int count;
        final int[] contents = new int[INPUTS];
        private int foundCount;
        private final int[] founds = new int[PATHS];
        boolean looksFurther;
        int content = NONE;

        void start(int anOperation, int aNumber, int aVersion) {
            operation = anOperation;
            number = aNumber;
            version = aVersion;
        }

        int foundAt(int place) {
            return place < foundCount ? read(founds, place) : NONE;
        }

        /** Finds, and makes the content: NONE if it fails. */
        void perform(Disk files, int directory) {
            foundCount = 0;
            looksFurther = false;
            int sum = number + version;
            int greatest = 0;
            for (int place = 0; place < count; place++) {
                int input = place < contents.length ? contents[place] : 0;
                greatest = Math.max(greatest, input);
                if (operation == JOIN) {
                    sum += (place + 1) * input;
                } else if (operation == STRIP) {
                    sum += input / 10;
                } else if (operation == CHECK || operation == INCLUDE) {
                    sum += input;
                }
            }
            if (operation == CHECK) {
                content = sum % 7 == 0 ? NONE : (number + version) % 1000;
            } else if (operation == INCLUDE) {
                content = (sum + lookAround(files, directory)) % 1000;
            } else {
                content = (sum + (operation == MOST ? greatest : operation == TALLY ? count : 0)) % 1000;
            }
        }

        // Paths that are inputs belong to the directory, or the target would be in error.
        private int lookAround(Disk files, int directory) {
            int sum = 0;
            long looked = 0;
            for (int place = 0; place < count; place++) {
                int pointer = place < contents.length ? contents[place] : 0;
                for (int step = 0; step < PATHS && pointer >= 500; step++) {
                    int path = pointer % PATHS;
                    if ((looked >> path & 1) == 1) {
                        break;
                    }
                    looked |= 1L << path;
                    boolean isElsewhere = files.ownerOf(path) != directory;
                    looksFurther |= isElsewhere;
                    pointer = isElsewhere && files.isSandboxed ? NONE : files.contentAt(path);
                    sum += Math.max(pointer, 0);
                    note(pointer == NONE ? -2 - path : path * 1000 + pointer);
                }
            }
            return sum;
        }

        private void note(int found) {
            if (foundCount >= 0 && foundCount < founds.length) {
                founds[foundCount] = found;
                foundCount++;
            }
        }

        /**
         * Alike in all but the content that came. What is found follows from the contents and from
         * what is seen; so an entry fits an action just if it is alike to the entry made for it now.
         */
        boolean isAlike(Entry other) {
            boolean isAlike = operation == other.operation && number == other.number && version == other.version
                && count == other.count && foundCount == other.foundCount;
            int inputEnd = Math.min(count, Math.min(contents.length, other.contents.length));
            for (int place = 0; isAlike && place < inputEnd; place++) {
                isAlike = contents[place] == other.contents[place];
            }
            int foundEnd = Math.min(foundCount, Math.min(founds.length, other.founds.length));
            for (int place = 0; isAlike && place < foundEnd; place++) {
                isAlike = founds[place] == other.founds[place];
            }
            return isAlike;
        }

        void copy(Entry other) {
            operation = other.operation;
            number = other.number;
            version = other.version;
            count = other.count;
            foundCount = other.foundCount;
            looksFurther = other.looksFurther;
            content = other.content;
            System.arraycopy(other.contents, 0, contents, 0, Math.min(contents.length, other.contents.length));
            System.arraycopy(other.founds, 0, founds, 0, Math.min(founds.length, other.founds.length));
        }
    }

    /** An action, what is kept of it, and what becomes of it in a build. */
    private static final class Action {
        int directory;
        int inputCount;
        private final int[] inputs = new int[INPUTS];
        final Entry now = new Entry();
        final Entry kept = new Entry();

        boolean isWanted;
        int kind;
        int duration;
        boolean isBoth;
        int weight;
        int outcome = NONE;
        int began = NONE;
        int ended = NONE;
        int triedAt = NONE;
        int worker = NONE;
        int fetchEnd = NEVER;
        int hereEnd = NEVER;
        int awayEnd = NEVER;

        void start(Target target, int number, int version) {
            directory = target.directory;
            inputCount = 0;
            now.start(target.operation, number, version);
        }

        void addInput(int input) {
            store(inputs, inputCount, input);
            inputCount++;
        }

        void addPaths(long paths) {
            for (int path = 0; path < PATHS; path++) {
                if ((paths >> path & 1) == 1) {
                    addInput(path);
                }
            }
        }

        int inputAt(int place) {
            return place >= 0 && place < inputCount && place < inputs.length ? inputs[place] : NONE;
        }

        /** The action that is an input; NONE if that is a path, or there are not so many. */
        int actionInput(int place) {
            boolean isThere = place >= 0 && place < inputCount && place < inputs.length;
            return isThere && inputs[place] >= FIRST_ACTION ? inputs[place] - FIRST_ACTION : NONE;
        }

        boolean isSameAs(Action other) {
            boolean isSame = now.operation == other.now.operation && now.number == other.now.number
                && now.version == other.now.version && inputCount == other.inputCount
                && (now.operation != INCLUDE || directory == other.directory);
            for (int place = 0; isSame && place < inputCount; place++) {
                isSame = read(inputs, place) == read(other.inputs, place);
            }
            return isSame;
        }

        void takeWork(Target target) {
            kind = target.kind;
            duration = target.duration;
            isBoth = target.isBoth;
        }

        void forgetBuild() {
            isWanted = false;
            weight = 0;
            outcome = NONE;
            began = NONE;
            ended = NONE;
            triedAt = NONE;
            worker = NONE;
            rest();
        }

        /** Nothing of it runs or is fetched any more. */
        private void rest() {
            fetchEnd = NEVER;
            hereEnd = NEVER;
            awayEnd = NEVER;
        }

        boolean isDone() {
            return outcome != NONE && outcome <= RAN_FAR;
        }

        boolean isUnderWay() {
            return began != NONE && outcome == NONE;
        }

        int nextEnd() {
            return Math.min(fetchEnd, Math.min(hereEnd, awayEnd));
        }

        void finish(int became, int time) {
            outcome = became;
            ended = time;
            rest();
            if (isDone()) {
                kept.copy(now);
            }
        }

        int tell(int what) {
            if (!isWanted) {
                return NONE;
            }
            return what == 0 ? outcome : what == 1 ? began : ended;
        }
    }

    /** A cache: its entries in a row with the latest at the end, and the bytes that are with it. */
    private static final class Cache {
        int count;
        private final Entry[] entries;
        private final boolean[] bytes = new boolean[CONTENTS];

        Cache(int bound) {
            entries = new Entry[bound > 0 ? bound : 1];
        }

        /** Where the entry is that is alike; NONE if none is. */
        int placeOf(Entry wanted) {
            for (int place = count - 1; place >= 0; place--) {
                Entry entry = place < entries.length ? entries[place] : null;
                if (entry != null && entry.isAlike(wanted)) {
                    return place;
                }
            }
            return NONE;
        }

        /** An alike entry, or the earliest one of a full cache, makes place. */
        void putEntry(Entry put) {
            int place = placeOf(put);
            if (place == NONE && count < entries.length) {
                place = count;
                count++;
            }
            makeLatest(place == NONE ? 0 : place, put);
        }

        /** What is at a place goes, and a copy of the entry that is put becomes the latest. */
        void makeLatest(int from, Entry put) {
            if (from < 0 || from >= count || count > entries.length) {
                return;
            }
            Entry freed = entries[from];
            for (int place = from; place + 1 < count; place++) {
                entries[place] = entries[place + 1];
            }
            Entry latest = freed == null ? new Entry() : freed;
            latest.copy(put);
            entries[count - 1] = latest;
        }

        int clear() {
            int before = count;
            count = 0;
            return before;
        }

        boolean hasBytes(int content) {
            return content >= 0 && content < bytes.length && bytes[content];
        }

        void takeBytes(int content) {
            if (content >= 0 && content < bytes.length) {
                bytes[content] = true;
            }
        }

        boolean loseBytes(int content) {
            boolean before = hasBytes(content);
            if (before) {
                bytes[content] = false;
            }
            return before;
        }
    }

    /** The workers: a worker is known by its kind times WORKERS and its number. */
    private static final class Crew {
        private final int[] counts = new int[KINDS];
        private final int[] warmFor = new int[KINDS * WORKERS];
        private final boolean[] busy = new boolean[KINDS * WORKERS];

        Crew() {
            Arrays.fill(counts, 1);
            Arrays.fill(warmFor, NONE);
        }

        int resize(int kind, int many) {
            int before = read(counts, kind);
            for (int number = many; number < WORKERS; number++) {
                store(warmFor, kind * WORKERS + number, NONE);
            }
            store(counts, kind, many);
            return before;
        }

        /** The free worker that takes a run, a warm one first; NONE if all run. */
        int pick(int kind, int version) {
            int picked = NONE;
            for (int number = read(counts, kind) - 1; number >= 0; number--) {
                int worker = kind * WORKERS + number;
                boolean isBetter = picked == NONE || isWarm(worker, version) || !isWarm(picked, version);
                if (isBetter && !isBusy(worker)) {
                    picked = worker;
                }
            }
            return picked;
        }

        boolean isWarm(int worker, int version) {
            return worker >= 0 && worker < warmFor.length && warmFor[worker] == version;
        }

        private boolean isBusy(int worker) {
            return worker >= 0 && worker < busy.length && busy[worker];
        }

        void take(int worker) {
            if (worker >= 0 && worker < busy.length) {
                busy[worker] = true;
            }
        }

        /** The run ends; the worker is warm for a version then, or for NONE. */
        void release(int worker, int version) {
            if (worker >= 0 && worker < busy.length) {
                busy[worker] = false;
                store(warmFor, worker, version);
            }
        }
    }

    /** Builds, and what the last one tells. */
    private static final class Mill {
        private static final int MOST_STEPS = 100000;

        private final Disk files;
        private final Plan plan;
        final Cache near = new Cache(24);
        final Cache far = new Cache(40);
        final Crew crew = new Crew();
        boolean isFarReached = true;
        int latency = 2;
        final int[] figures = new int[FIGURES];
        int firstFailed = NONE;
        private int time;
        private boolean isStopped;
        private final int[] stack = new int[TARGETS + 1];
        private final int[] places = new int[TARGETS + 1];

        Mill(Disk files, Plan plan) {
            this.files = files;
            this.plan = plan;
        }

        /** How many of the targets are done; NONE if one is in error; OVERFULL, and nothing changed. */
        int run(int mask, boolean goesOn, int limit) {
            int sound = plan.soundAmong(mask);
            if (sound != mask && !goesOn) {
                forgetLast();
                return NONE;
            }
            if (!plan.findActions(sound)) {
                return OVERFULL;
            }
            forgetLast();
            takeFileBytes();
            plan.markWanted();
            weigh();
            passTime(goesOn, limit);
            countOutcomes();
            int done = 0;
            for (int target = 0; target < TARGETS; target++) {
                boolean isAsked = (sound >> target & 1) == 1;
                done += isAsked && plan.actionMadeFor(target).isDone() ? 1 : 0;
            }
            return done;
        }

        private void forgetLast() {
            Arrays.fill(figures, 0);
            firstFailed = NONE;
            time = 0;
            isStopped = false;
            for (int number = 0; number < plan.count; number++) {
                plan.actionAt(number).forgetBuild();
            }
        }

        private void takeFileBytes() {
            for (int path = 0; path < PATHS; path++) {
                near.takeBytes(files.contentAt(path));
            }
        }

        // Inputs have lower numbers, so by falling numbers each weight is whole when it is passed on.
        private void weigh() {
            for (int number = plan.count - 1; number >= 0; number--) {
                Action action = plan.actionAt(number);
                action.weight += action.duration;
                for (int place = 0; action.isWanted && place < action.inputCount; place++) {
                    int inner = action.actionInput(place);
                    if (inner != NONE) {
                        Action input = plan.actionAt(inner);
                        input.weight = Math.max(input.weight, action.weight);
                    }
                }
            }
        }

        private void passTime(boolean goesOn, int limit) {
            for (int step = 0; step < MOST_STEPS; step++) {
                endThose(goesOn);
                if (limit != 0 && time >= limit) {
                    cancelRest();
                    return;
                }
                if (!isStopped) {
                    beginThose();
                }
                int next = nextEnd();
                if (next == NEVER) {
                    return;
                }
                time = limit != 0 && next > limit ? limit : next;
            }
        }

        private int nextEnd() {
            int next = NEVER;
            for (int number = 0; number < plan.count; number++) {
                next = Math.min(next, plan.actionAt(number).nextEnd());
            }
            return next;
        }

        private void endThose(boolean goesOn) {
            for (int number = 0; number < plan.count; number++) {
                Action action = plan.actionAt(number);
                if (action.fetchEnd == time) {
                    action.finish(FROM_FAR, time);
                    near.putEntry(action.now);
                } else if (action.hereEnd == time || action.awayEnd == time) {
                    endRun(action, action.hereEnd == time);
                    if (action.outcome == FAILED) {
                        firstFailed = firstFailed == NONE ? number : firstFailed;
                        isStopped |= !goesOn;
                    }
                }
            }
        }

        private void endRun(Action action, boolean isHere) {
            Entry now = action.now;
            crew.release(action.worker, isHere ? now.version : NONE);
            count(LOOKED_AT_MORE, now.looksFurther ? 1 : 0);
            if (now.content == NONE) {
                action.finish(FAILED, time);
                return;
            }
            action.finish(isHere ? RAN : RAN_FAR, time);
            if (isHere) {
                near.takeBytes(now.content);
            }
            near.putEntry(now);
            if (isFarReached && !now.looksFurther) {
                far.putEntry(now);
                far.takeBytes(now.content);
            }
        }

        private void count(int figure, int more) {
            if (figure >= 0 && figure < figures.length) {
                figures[figure] += more;
            }
        }

        private void cancelRest() {
            for (int number = 0; number < plan.count; number++) {
                Action action = plan.actionAt(number);
                if (action.isUnderWay()) {
                    crew.release(action.worker, NONE);
                    action.finish(CANCELLED, time);
                }
            }
        }

        private void beginThose() {
            for (int step = 0; step <= ACTIONS; step++) {
                int best = nextToBegin();
                if (best == NONE) {
                    return;
                }
                Action action = plan.actionAt(best);
                if (action.triedAt == NONE) {
                    prepare(action);
                }
                action.triedAt = time;
                begin(action, best);
            }
        }

        // One that could not begin is not tried again at the same time: workers do not get free then.
        private int nextToBegin() {
            int best = NONE;
            int weight = 0;
            for (int number = 0; number < plan.count; number++) {
                Action action = plan.actionAt(number);
                boolean isOpen = action.isWanted && action.began == NONE && action.triedAt != time;
                if (isOpen && action.weight > weight && isReady(action)) {
                    best = number;
                    weight = action.weight;
                }
            }
            return best;
        }

        private boolean isReady(Action action) {
            for (int place = 0; place < action.inputCount; place++) {
                int inner = action.actionInput(place);
                if (inner != NONE && !plan.actionAt(inner).isDone()) {
                    return false;
                }
            }
            return true;
        }

        // Files do not change in a build, so what the action will give is known when it is ready.
        private void prepare(Action action) {
            action.now.count = action.inputCount;
            for (int place = 0; place < action.inputCount; place++) {
                int inner = action.actionInput(place);
                int content = inner == NONE ? files.contentAt(action.inputAt(place)) : plan.actionAt(inner).now.content;
                store(action.now.contents, place, content);
            }
            action.now.perform(files, action.directory);
        }

        private void begin(Action action, int number) {
            if (action.kept.isAlike(action.now)) {
                action.began = time;
                action.finish(UP_TO_DATE, time);
                return;
            }
            int nearPlace = near.placeOf(action.now);
            if (nearPlace != NONE) {
                near.makeLatest(nearPlace, action.now);
                action.began = time;
                action.finish(NEAR, time);
            } else if (isFarReached && far.placeOf(action.now) != NONE) {
                action.began = time;
                action.fetchEnd = time + latency;
            } else {
                beginRun(action, number);
            }
        }

        private void beginRun(Action action, int number) {
            boolean isAway = action.isBoth && isFarReached;
            int worker = crew.pick(action.kind, action.now.version);
            if (worker == NONE && !isAway) {
                return;
            }
            action.began = time;
            if (worker != NONE) {
                boolean isWarm = crew.isWarm(worker, action.now.version);
                action.hereEnd = time + (isWarm ? (action.duration + 1) / 2 : action.duration) + bringBytes(number);
                action.worker = worker;
                crew.take(worker);
            }
            if (isAway) {
                action.awayEnd = time + action.duration + latency;
            }
        }

        /** Brings the bytes of an action's inputs here; what runs again for that adds the time that is answered. */
        private int bringBytes(int number) {
            int added = 0;
            int depth = 1;
            store(stack, 0, number);
            store(places, 0, 0);
            for (int step = 0; step < MOST_STEPS && depth > 0; step++) {
                Action top = plan.actionAt(read(stack, depth - 1));
                int place = read(places, depth - 1);
                if (place >= top.inputCount) {
                    depth--;
                    if (depth > 0) {
                        near.takeBytes(top.now.content);
                        count(AGAIN, 1);
                        added += top.duration;
                    }
                    continue;
                }
                store(places, depth - 1, place + 1);
                int inner = top.actionInput(place);
                if (inner == NONE || near.hasBytes(plan.actionAt(inner).now.content)) {
                    continue;
                }
                if (isFarReached && far.hasBytes(plan.actionAt(inner).now.content)) {
                    near.takeBytes(plan.actionAt(inner).now.content);
                    count(FETCHED, 1);
                } else {
                    store(stack, depth, inner);
                    store(places, depth, 0);
                    depth++;
                }
            }
            return added;
        }

        private void countOutcomes() {
            store(figures, 0, time);
            for (int number = 0; number < plan.count; number++) {
                Action action = plan.actionAt(number);
                if (action.isWanted) {
                    action.outcome = action.outcome == NONE ? SKIPPED : action.outcome;
                    count(1 + action.outcome, 1);
                }
            }
        }

        int criticalAt(int place) {
            int last = lastOfAll();
            for (int step = 0; step < place && last != NONE; step++) {
                last = lastInput(plan.actionAt(last));
            }
            return last;
        }

        private int lastOfAll() {
            int last = NONE;
            for (int number = 0; number < plan.count; number++) {
                Action action = plan.actionAt(number);
                boolean counts = action.isDone() || action.outcome == FAILED;
                if (counts && (last == NONE || action.ended > plan.actionAt(last).ended)) {
                    last = number;
                }
            }
            return last;
        }

        private int lastInput(Action action) {
            int last = NONE;
            for (int place = 0; place < action.inputCount; place++) {
                int inner = action.actionInput(place);
                int ended = plan.actionAt(inner).ended;
                int best = plan.actionAt(last).ended;
                if (inner != NONE && (last == NONE || ended > best || ended == best && inner < last)) {
                    last = inner;
                }
            }
            return last;
        }
    }
}
