import java.util.ArrayList;
import java.util.Arrays;
import java.util.HashMap;
import java.util.HashSet;
import java.util.List;
import java.util.Map;
import java.util.Set;

/**
 * The document told a second time, as plainly as it can be: time goes on by one, what is asked is
 * found anew each time, an entry fits by its own definition. It knows nothing of Buildmill's ways.
 */
final class Model {
    private static final int[] PARENTS = {-1, 0, 0, 1, 1, 2};

    // ---- exceptions

    private static void place(boolean holds) {
        if (!holds) throw new IndexOutOfBoundsException();
    }

    private static void range(boolean holds) {
        if (!holds) throw new IllegalArgumentException();
    }

    private static void fit(boolean holds) {
        if (!holds) throw new IllegalStateException();
    }

    private static boolean in(int x, int least, int most) {
        return least <= x && x <= most;
    }

    // ---- files, packages

    private final Integer[] files = new Integer[48];
    private final boolean[] packages = {true, false, false, false, false, false};

    public int write(int path, int content) {
        place(in(path, 0, 47));
        range(in(content, 0, 999));
        Integer before = files[path];
        files[path] = content;
        return before == null ? -1 : before;
    }

    public int erase(int path) {
        place(in(path, 0, 47));
        Integer before = files[path];
        files[path] = null;
        return before == null ? -1 : before;
    }

    public boolean pack(int directory, boolean is) {
        place(in(directory, 0, 5));
        fit(directory != 0);
        boolean before = packages[directory];
        packages[directory] = is;
        return before;
    }

    private int belongs(int directory) {
        return packages[directory] ? directory : belongs(PARENTS[directory]);
    }

    public int packageOf(int path) {
        place(in(path, 0, 47));
        return belongs(path / 8);
    }

    private List<Integer> globOf(int directory, int names, boolean isDeep) {
        List<Integer> paths = new ArrayList<>();
        for (int path = 0; path < 48; path++) {
            if (files[path] == null) continue;
            if ((names & 1 << path % 8) == 0) continue;
            if (path / 8 == directory || isDeep && belongs(path / 8) == directory) paths.add(path);
        }
        return paths;
    }

    public long globbed(int directory, int names, boolean isDeep) {
        place(in(directory, 0, 5));
        range(in(names, 0, 255));
        fit(packages[directory]);
        long bits = 0;
        for (int path : globOf(directory, names, isDeep)) bits += 1L << path;
        return bits;
    }

    // ---- rule files

    private static final class Row {
        final int maker;
        final List<Integer> numbers = new ArrayList<>();

        Row(int maker) {
            this.maker = maker;
        }
    }

    private static final class Failure extends Exception {
        private static final long serialVersionUID = 1;
        final transient List<Integer> chain = new ArrayList<>();
    }

    private final List<List<int[]>> rules = new ArrayList<>();

    {
        for (int file = 0; file < 6; file++) rules.add(new ArrayList<>());
    }

    public int state(int file, int kind, int n, int m, int from) {
        place(in(file, 0, 5));
        place(in(n, 0, 7));
        if (kind == 1 || kind == 2 || kind == 4 || kind == 5) place(in(m, 0, 7));
        if (kind == 1) place(in(from, 0, 5));
        range(in(kind, 0, 6));
        if (kind == 0) range(in(m, 0, 999));
        if (kind == 3 || kind == 6) range(m == 0);
        if (kind != 1) range(from == 0);
        fit(rules.get(file).size() < 12);
        rules.get(file).add(new int[] {kind, n, m, from});
        return rules.get(file).size();
    }

    public int unstate(int file, int statement) {
        place(in(file, 0, 5));
        place(in(statement, 0, rules.get(file).size() - 1));
        rules.get(file).remove(statement);
        return rules.get(file).size();
    }

    private Object[] evaluate(int file) throws Failure {
        return evaluate(file, new HashMap<>(), new HashSet<>());
    }

    private Object[] evaluate(int file, Map<Integer, Object[]> done, Set<Integer> open) throws Failure {
        open.add(file);
        Object[] names = new Object[8];
        List<int[]> row = rules.get(file);
        for (int at = 0; at < row.size(); at++) {
            int[] s = row.get(at);
            int code = file * 1000 + at * 10;
            switch (s[0]) {
                case 0 -> names[s[1]] = s[2];
                case 1 -> {
                    if (open.contains(s[3])) fail(code + 5);
                    if (!done.containsKey(s[3])) {
                        try {
                            evaluate(s[3], done, open);
                        } catch (Failure e) {
                            e.chain.add(0, code + 6);
                            throw e;
                        }
                    }
                    Object got = done.get(s[3])[s[2]];
                    if (got == null) fail(code + 1);
                    names[s[1]] = got;
                }
                case 2 -> {
                    if (names[s[1]] == null || names[s[2]] == null) fail(code + 1);
                    if (names[s[1]] instanceof Row || names[s[2]] instanceof Row) fail(code + 2);
                    names[s[1]] = ((Integer) names[s[1]] + (Integer) names[s[2]]) % 1000;
                }
                case 3 -> names[s[1]] = new Row(file);
                case 4 -> {
                    if (names[s[1]] == null || names[s[2]] == null) fail(code + 1);
                    if (!(names[s[1]] instanceof Row) || names[s[2]] instanceof Row) fail(code + 2);
                    Row list = (Row) names[s[1]];
                    if (list.maker != file) fail(code + 3);
                    if (list.numbers.size() == 8) fail(code + 4);
                    list.numbers.add((Integer) names[s[2]]);
                }
                case 5 -> {
                    if (names[s[2]] == null) fail(code + 1);
                    names[s[1]] = names[s[2]];
                }
                default -> {
                    if (names[s[1]] == null) fail(code + 1);
                    if (names[s[1]] instanceof Row) fail(code + 2);
                    if ((Integer) names[s[1]] == 0) at++;
                }
            }
        }
        open.remove(file);
        done.put(file, names);
        return names;
    }

    private static void fail(int code) throws Failure {
        Failure failure = new Failure();
        failure.chain.add(code);
        throw failure;
    }

    private Object named(int file, int name) {
        try {
            return evaluate(file)[name];
        } catch (Failure e) {
            return null;
        }
    }

    public int value(int file, int name) {
        place(in(file, 0, 5));
        place(in(name, 0, 7));
        Object got = named(file, name);
        return got == null ? -1 : got instanceof Row ? -2 : (Integer) got;
    }

    public int listAt(int file, int name, int place) {
        place(in(file, 0, 5));
        place(in(name, 0, 7));
        place(place >= 0);
        Object got = named(file, name);
        return got instanceof Row list && place < list.numbers.size() ? list.numbers.get(place) : -1;
    }

    public int ruleFailure(int file, int depth) {
        place(in(file, 0, 5));
        place(depth >= 0);
        try {
            evaluate(file);
            return -1;
        } catch (Failure e) {
            return depth < e.chain.size() ? e.chain.get(depth) : -1;
        }
    }

    // ---- settings, toolchains

    private List<Integer> settings = new ArrayList<>(List.of(0, 0, 0, 0));
    private final List<int[]> tools = new ArrayList<>();

    public int setting(int setting, int value) {
        place(in(setting, 0, 3));
        range(in(value, 0, 3));
        int before = settings.get(setting);
        settings = with(settings, setting, value);
        return before;
    }

    private static List<Integer> with(List<Integer> configuration, int setting, int value) {
        List<Integer> copy = new ArrayList<>(configuration);
        copy.set(setting, value);
        return copy;
    }

    public int toolchain(int type, int setting, int value, int version) {
        place(in(setting, -1, 3));
        range(in(type, 0, 2));
        range(setting == -1 ? value == 0 : in(value, 0, 3));
        range(in(version, 0, 99));
        fit(tools.size() < 8);
        tools.add(new int[] {type, setting, value, version});
        return tools.size();
    }

    public int untool(int toolchain) {
        place(in(toolchain, 0, tools.size() - 1));
        tools.remove(toolchain);
        return tools.size();
    }

    private int resolve(int type, List<Integer> configuration) {
        for (int[] tool : tools) {
            if (tool[0] == type && (tool[1] == -1 || configuration.get(tool[1]) == tool[2])) return tool[3];
        }
        return -1;
    }

    // ---- targets

    private static final class Target {
        int directory, operation, number;
        int file = -1, name;
        int type = -1;
        int[] transition;
        final List<int[]> conditions = new ArrayList<>();
        final List<int[]> items = new ArrayList<>();
        int kind, duration = 1;
        boolean isBoth;
        int shards, luck;
        int[] fates = {-1, -1, -1, -1};
        final Set<List<Integer>> kept = new HashSet<>();
    }

    private final List<Target> targets = new ArrayList<>();

    private Target at(int target) {
        place(in(target, 0, targets.size() - 1));
        return targets.get(target);
    }

    public int target(int directory, int operation, int number) {
        place(in(directory, 0, 5));
        range(in(operation, 0, 5));
        range(in(number, 0, 999));
        fit(targets.size() < 16);
        Target made = new Target();
        made.directory = directory;
        made.operation = operation;
        made.number = number;
        targets.add(made);
        return targets.size() - 1;
    }

    public void numberFrom(int target, int file, int name) {
        Target t = at(target);
        place(in(file, 0, 5));
        place(in(name, 0, 7));
        t.file = file;
        t.name = name;
    }

    public int choose(int target, int setting, int value, int number) {
        Target t = at(target);
        place(in(setting, 0, 3));
        range(in(value, 0, 3));
        range(in(number, 0, 999));
        fit(t.conditions.size() < 4);
        t.conditions.add(new int[] {setting, value, number});
        return t.conditions.size();
    }

    private static int add(Target t, int... item) {
        fit(t.items.size() < 6);
        t.items.add(item);
        return t.items.size();
    }

    public int source(int target, int path) {
        Target t = at(target);
        place(in(path, 0, 47));
        return add(t, 0, path);
    }

    public int glob(int target, int names, boolean isDeep) {
        Target t = at(target);
        range(in(names, 0, 255));
        return add(t, 1, names, isDeep ? 1 : 0);
    }

    public int depend(int target, int other) {
        Target t = at(target);
        at(other);
        range(other < target);
        return add(t, 2, other);
    }

    public int drop(int target) {
        Target t = at(target);
        fit(!t.items.isEmpty());
        t.items.remove(t.items.size() - 1);
        return t.items.size();
    }

    public int uses(int target, int type) {
        Target t = at(target);
        range(in(type, -1, 2));
        int before = t.type;
        t.type = type;
        return before;
    }

    public void transit(int target, int setting, int value) {
        Target t = at(target);
        place(in(setting, -1, 3));
        range(setting == -1 ? value == 0 : in(value, 0, 3));
        t.transition = setting == -1 ? null : new int[] {setting, value};
    }

    public void work(int target, int kind, int duration, boolean isBoth) {
        Target t = at(target);
        place(in(kind, 0, 2));
        range(in(duration, 1, 20));
        t.kind = kind;
        t.duration = duration;
        t.isBoth = isBoth;
    }

    public void shards(int target, int shards, int luck) {
        Target t = at(target);
        range(in(shards, 0, 4));
        range(in(luck, 0, 9));
        t.shards = shards;
        t.luck = luck;
    }

    private int numberOf(Target t, List<Integer> configuration) {
        for (int[] c : t.conditions) {
            if (configuration.get(c[0]) == c[1]) return c[2];
        }
        if (t.file == -1) return t.number;
        Object got = named(t.file, t.name);
        return got instanceof Integer number ? number : -1;
    }

    private int versionOf(Target t, List<Integer> configuration) {
        return t.type == -1 ? 0 : resolve(t.type, configuration);
    }

    private static List<Integer> below(Target t, List<Integer> configuration) {
        return t.transition == null ? configuration : with(configuration, t.transition[0], t.transition[1]);
    }

    /** The chain of causes; empty if the target is not in error. */
    private List<Integer> errors(int target, List<Integer> configuration, Map<List<Object>, List<Integer>> known) {
        List<Object> key = List.of(target, configuration);
        if (!known.containsKey(key)) known.put(key, findErrors(target, configuration, known));
        return known.get(key);
    }

    private List<Integer> findErrors(int target, List<Integer> configuration, Map<List<Object>, List<Integer>> known) {
        Target t = targets.get(target);
        if (!packages[t.directory]) return List.of(target * 10 + 1);
        if (numberOf(t, configuration) == -1) return List.of(target * 10 + 2);
        if (versionOf(t, configuration) == -1) return List.of(target * 10 + 3);
        int inputs = 0;
        for (int[] item : t.items) {
            if (item[0] == 0) {
                if (belongs(item[1] / 8) != t.directory) return List.of(target * 10 + 4);
                if (files[item[1]] == null) return List.of(target * 10 + 5);
                inputs++;
            } else if (item[0] == 1) {
                inputs += globOf(t.directory, item[1], item[2] == 1).size();
            } else {
                List<Integer> cause = errors(item[1], below(t, configuration), known);
                if (!cause.isEmpty()) {
                    List<Integer> chain = new ArrayList<>(List.of(target * 10 + 6));
                    chain.addAll(cause);
                    return chain;
                }
                inputs++;
            }
        }
        return inputs > 40 ? List.of(target * 10 + 7) : List.of();
    }

    private List<Integer> errors(int target) {
        return errors(target, settings, new HashMap<>());
    }

    public int targetError(int target, int depth) {
        at(target);
        place(depth >= 0);
        List<Integer> chain = errors(target);
        return depth < chain.size() ? chain.get(depth) : -1;
    }

    // ---- actions

    private static final class Outcome {
        Integer content;
        final List<List<Integer>> found = new ArrayList<>();
        boolean looksAtMore;
    }

    private static final class Kept {
        int operation, number, version;
        List<Integer> contents;
        List<List<Integer>> found;
        int content;
    }

    private static final class Action {
        int operation, number, version, directory;
        List<Integer> inputs = new ArrayList<>();
        Kept kept;
        boolean isWanted;
        int kind, duration;
        boolean isBoth;
        int became = -1, began = -1, ended = -1;
        int content;
        int fetchEnd = -1, hereEnd = -1, farEnd = -1;
        int worker = -1;

        boolean isSame(Action other) {
            return operation == other.operation && number == other.number && version == other.version
                && inputs.equals(other.inputs) && (operation != 5 || directory == other.directory);
        }

        boolean isDone() {
            return in(became, 0, 4);
        }
    }

    private List<Action> actions = new ArrayList<>();
    private boolean sandbox = true;

    /** The number of the action; -1 if it is not there and none is to be added. */
    private int find(int target, List<Integer> configuration, boolean adds, Map<List<Object>, Integer> known, List<Object[]> finds) {
        List<Object> key = List.of(target, configuration);
        if (known.containsKey(key)) return known.get(key);
        Target t = targets.get(target);
        Action a = new Action();
        a.operation = t.operation;
        a.number = numberOf(t, configuration);
        a.version = versionOf(t, configuration);
        a.directory = t.directory;
        boolean isWhole = true;
        for (int[] item : t.items) {
            if (item[0] == 0) {
                a.inputs.add(item[1]);
            } else if (item[0] == 1) {
                a.inputs.addAll(globOf(t.directory, item[1], item[2] == 1));
            } else {
                int inner = find(item[1], below(t, configuration), adds, known, finds);
                isWhole &= inner != -1;
                a.inputs.add(100 + inner);
            }
        }
        int number = -1;
        for (int other = 0; isWhole && other < actions.size() && number == -1; other++) {
            if (actions.get(other).isSame(a)) number = other;
        }
        if (number == -1 && adds) {
            actions.add(a);
            number = actions.size() - 1;
        }
        known.put(key, number);
        finds.add(new Object[] {number, t});
        return number;
    }

    private int seenBy(int operation, int directory, List<Integer> inputs, int path) {
        boolean sees = !sandbox || belongs(path / 8) == directory || inputs.contains(path);
        return sees && files[path] != null ? files[path] : -1;
    }

    private Outcome perform(int operation, int number, int version, int directory, List<Integer> paths, List<Integer> x) {
        Outcome outcome = new Outcome();
        int n = number + version;
        int result = n;
        switch (operation) {
            case 0 -> {
                for (int i = 1; i <= x.size(); i++) result += i * x.get(i - 1);
            }
            case 1 -> {
                for (int content : x) result += content / 10;
            }
            case 2 -> {
                int most = 0;
                for (int content : x) most = Math.max(most, content);
                result += most;
            }
            case 3 -> result += x.size();
            case 4 -> {
                int sum = n;
                for (int content : x) sum += content;
                if (sum % 7 == 0) return outcome;
            }
            default -> {
                for (int content : x) result += content;
                Set<Integer> looked = new HashSet<>();
                for (int content : x) {
                    int pointing = content;
                    while (pointing >= 500 && looked.add(pointing % 48)) {
                        int path = pointing % 48;
                        pointing = seenBy(operation, directory, paths, path);
                        outcome.found.add(List.of(path, pointing));
                        if (belongs(path / 8) != directory && !paths.contains(path)) outcome.looksAtMore = true;
                        if (pointing != -1) result += pointing;
                    }
                }
            }
        }
        outcome.content = result % 1000;
        return outcome;
    }

    private List<Integer> contentsOf(Action a) {
        List<Integer> contents = new ArrayList<>();
        for (int input : a.inputs) contents.add(input < 100 ? files[input] : actions.get(input - 100).content);
        return contents;
    }

    private Outcome perform(Action a) {
        return perform(a.operation, a.number, a.version, a.directory, a.inputs, contentsOf(a));
    }

    private boolean seesAsThen(Kept kept, Action a) {
        for (List<Integer> f : kept.found) {
            if (seenBy(a.operation, a.directory, a.inputs, f.get(0)) != f.get(1)) return false;
        }
        return true;
    }

    private boolean isUpToDate(Action a) {
        return a.kept != null && a.kept.contents.equals(contentsOf(a)) && seesAsThen(a.kept, a);
    }

    private boolean fits(Kept entry, Action a) {
        return entry.operation == a.operation && entry.number == a.number && entry.version == a.version
            && entry.contents.equals(contentsOf(a)) && seesAsThen(entry, a);
    }

    private Kept fitting(List<Kept> cache, Action a) {
        for (int i = cache.size() - 1; i >= 0; i--) {
            if (fits(cache.get(i), a)) return cache.get(i);
        }
        return null;
    }

    private static void put(List<Kept> cache, Kept entry, int bound) {
        cache.removeIf(e -> e.operation == entry.operation && e.number == entry.number && e.version == entry.version
            && e.contents.equals(entry.contents) && e.found.equals(entry.found));
        cache.add(entry);
        if (cache.size() > bound) cache.remove(0);
    }

    // ---- how it is built

    private static final class Worker {
        int warm = -1;
        boolean runs;
    }

    private final List<List<Worker>> crews = new ArrayList<>();

    {
        for (int kind = 0; kind < 3; kind++) crews.add(new ArrayList<>(List.of(new Worker())));
    }

    private boolean reached = true;
    private int latency = 2;
    private final List<Kept> near = new ArrayList<>();
    private final List<Kept> far = new ArrayList<>();
    private final Set<Integer> bytesHere = new HashSet<>();
    private final Set<Integer> bytesFar = new HashSet<>();

    public int workers(int kind, int many) {
        place(in(kind, 0, 2));
        range(in(many, 1, 4));
        List<Worker> crew = crews.get(kind);
        int before = crew.size();
        while (crew.size() > many) crew.remove(crew.size() - 1);
        while (crew.size() < many) crew.add(new Worker());
        return before;
    }

    public boolean sandbox(boolean isOn) {
        boolean before = sandbox;
        sandbox = isOn;
        return before;
    }

    public boolean far(boolean canBeReached, int latency) {
        range(in(latency, 1, 9));
        boolean before = reached;
        reached = canBeReached;
        this.latency = latency;
        return before;
    }

    public boolean lose(int content) {
        range(in(content, 0, 999));
        return bytesFar.remove(content);
    }

    public int forget(boolean isFar) {
        List<Kept> cache = isFar ? far : near;
        int before = cache.size();
        cache.clear();
        return before;
    }

    public int entries(boolean isFar) {
        return isFar ? far.size() : near.size();
    }

    // ---- builds

    private int[] told = new int[12];
    private int failedFirst = -1;
    private int time;

    private void startAnew() {
        told = new int[12];
        failedFirst = -1;
        for (Action a : actions) {
            a.isWanted = false;
            a.became = a.began = a.ended = -1;
            a.fetchEnd = a.hereEnd = a.farEnd = -1;
        }
    }

    public int build(int set, boolean goesOn, int limit) {
        place(set > 0 && set < 1 << targets.size());
        range(in(limit, 0, 999));
        List<Integer> roots = new ArrayList<>();
        boolean isError = false;
        for (int target = 0; target < targets.size(); target++) {
            if ((set & 1 << target) == 0) continue;
            if (errors(target).isEmpty()) roots.add(target);
            else isError = true;
        }
        if (isError && !goesOn) {
            startAnew();
            return -1;
        }
        List<Action> before = new ArrayList<>(actions);
        Map<List<Object>, Integer> known = new HashMap<>();
        List<Object[]> finds = new ArrayList<>();
        for (int root : roots) find(root, settings, true, known, finds);
        if (actions.size() > 120) {
            actions = before;
            throw new IllegalStateException();
        }
        startAnew();
        for (Object[] f : finds) {
            Action a = actions.get((Integer) f[0]);
            Target t = (Target) f[1];
            if (a.isWanted) continue;
            a.isWanted = true;
            a.kind = t.kind;
            a.duration = t.duration;
            a.isBoth = t.isBoth;
        }
        for (Integer file : files) {
            if (file != null) bytesHere.add(file);
        }
        passTime(goesOn, limit);
        int done = 0;
        for (int root : roots) done += actions.get(known.get(List.of(root, settings))).isDone() ? 1 : 0;
        return done;
    }

    private void passTime(boolean goesOn, int limit) {
        boolean isStopped = false;
        for (time = 0; ; time++) {
            for (int number = 0; number < actions.size(); number++) {
                if (end(actions.get(number)) == 5) {
                    if (failedFirst == -1) failedFirst = number;
                    isStopped |= !goesOn;
                }
            }
            if (limit > 0 && time == limit) {
                for (Action a : actions) cancel(a);
                break;
            }
            while (!isStopped && beginOne()) continue;
            boolean runs = false;
            for (Action a : actions) runs |= a.began != -1 && a.ended == -1;
            if (!runs) break;
        }
        told[0] = time;
        for (Action a : actions) {
            if (a.isWanted && a.began == -1) a.became = 6;
            if (a.isWanted) told[1 + a.became]++;
        }
    }

    private void cancel(Action a) {
        if (a.began == -1 || a.ended != -1) return;
        a.became = 7;
        a.ended = time;
        freeWorker(a, -1);
    }

    private void freeWorker(Action a, int warm) {
        if (a.worker == -1) return;
        Worker w = crews.get(a.kind).get(a.worker);
        w.runs = false;
        w.warm = warm;
        a.worker = -1;
    }

    /** What became of it, if it ended just now. */
    private int end(Action a) {
        if (a.began == -1 || a.ended != -1) return -1;
        if (a.fetchEnd == time) {
            Kept kept = keep(a, 2);
            put(near, kept, 24);
        } else if (a.hereEnd == time || a.farEnd == time) {
            boolean isHere = a.hereEnd == time;
            freeWorker(a, isHere ? a.version : -1);
            Outcome outcome = perform(a);
            if (outcome.looksAtMore) told[11]++;
            if (outcome.content == null) {
                a.became = 5;
                a.ended = time;
                return 5;
            }
            Kept kept = keep(a, isHere ? 3 : 4);
            if (isHere) bytesHere.add(kept.content);
            put(near, kept, 24);
            if (reached && !outcome.looksAtMore) {
                put(far, kept, 40);
                bytesFar.add(kept.content);
            }
        }
        return a.became;
    }

    private Kept keep(Action a, int became) {
        Outcome outcome = perform(a);
        Kept kept = new Kept();
        kept.operation = a.operation;
        kept.number = a.number;
        kept.version = a.version;
        kept.contents = contentsOf(a);
        kept.found = outcome.found;
        kept.content = outcome.content;
        a.kept = kept;
        a.content = kept.content;
        a.became = became;
        a.ended = time;
        return kept;
    }

    private int weight(int number) {
        int most = 0;
        for (int user = number + 1; user < actions.size(); user++) {
            Action a = actions.get(user);
            if (a.isWanted && a.inputs.contains(100 + number)) most = Math.max(most, weights[user]);
        }
        return actions.get(number).duration + most;
    }

    private int[] weights;

    private boolean beginOne() {
        weights = new int[actions.size()];
        for (int number = actions.size() - 1; number >= 0; number--) weights[number] = weight(number);
        int best = -1;
        for (int number = 0; number < actions.size(); number++) {
            Action a = actions.get(number);
            if (a.isWanted && a.began == -1 && (best == -1 || weights[number] > weights[best]) && canBegin(a)) best = number;
        }
        if (best == -1) return false;
        begin(actions.get(best));
        return true;
    }

    private int freeWorker(int kind, int version) {
        List<Worker> crew = crews.get(kind);
        for (int w = 0; w < crew.size(); w++) {
            if (!crew.get(w).runs && crew.get(w).warm == version) return w;
        }
        for (int w = 0; w < crew.size(); w++) {
            if (!crew.get(w).runs) return w;
        }
        return -1;
    }

    private boolean canBegin(Action a) {
        for (int input : a.inputs) {
            if (input >= 100 && !actions.get(input - 100).isDone()) return false;
        }
        return isUpToDate(a) || fitting(near, a) != null || reached && fitting(far, a) != null
            || freeWorker(a.kind, a.version) != -1 || a.isBoth && reached;
    }

    private void begin(Action a) {
        a.began = time;
        Kept entry = fitting(near, a);
        if (isUpToDate(a)) {
            a.content = a.kept.content;
            a.became = 0;
            a.ended = time;
        } else if (entry != null) {
            near.remove(entry);
            near.add(entry);
            keep(a, 1);
            if (a.content != entry.content) throw new RuntimeException("an entry that fits has another content");
        } else if (reached && fitting(far, a) != null) {
            a.fetchEnd = time + latency;
        } else {
            int worker = freeWorker(a.kind, a.version);
            if (worker != -1) {
                Worker w = crews.get(a.kind).get(worker);
                w.runs = true;
                a.worker = worker;
                a.hereEnd = time + (w.warm == a.version ? a.duration - a.duration / 2 : a.duration) + bring(a);
            }
            if (a.isBoth && reached) a.farEnd = time + a.duration + latency;
        }
    }

    private int bring(Action a) {
        int more = 0;
        for (int input : a.inputs) {
            if (input < 100) continue;
            Action below = actions.get(input - 100);
            if (bytesHere.contains(below.content)) continue;
            if (reached && bytesFar.contains(below.content)) {
                bytesHere.add(below.content);
                told[10]++;
            } else {
                more += bring(below) + below.duration;
                bytesHere.add(below.content);
                told[9]++;
            }
        }
        return more;
    }

    public int told(int what) {
        range(in(what, 0, 11));
        return told[what];
    }

    public int failedFirst() {
        return failedFirst;
    }

    public int critical(int place) {
        place(place >= 0);
        List<Integer> all = new ArrayList<>();
        for (int number = 0; number < actions.size(); number++) all.add(number);
        int last = endedLast(all);
        for (int step = 0; step < place && last != -1; step++) {
            List<Integer> inputs = new ArrayList<>();
            for (int input : actions.get(last).inputs) if (input >= 100) inputs.add(input - 100);
            last = endedLast(inputs);
        }
        return last;
    }

    private int endedLast(List<Integer> numbers) {
        int last = -1;
        for (int number : numbers) {
            Action a = actions.get(number);
            if (!in(a.became, 0, 5)) continue;
            int best = last == -1 ? -1 : actions.get(last).ended;
            if (a.ended > best || a.ended == best && number < last) last = number;
        }
        return last;
    }

    public int actions() {
        return actions.size();
    }

    public int actionOf(int target) {
        at(target);
        if (!errors(target).isEmpty()) return -1;
        return find(target, settings, false, new HashMap<>(), new ArrayList<>());
    }

    private Action action(int action) {
        place(in(action, 0, actions.size() - 1));
        return actions.get(action);
    }

    public int input(int action, int input) {
        Action a = action(action);
        place(input >= 0);
        return input < a.inputs.size() ? a.inputs.get(input) : -1;
    }

    public int became(int action, int what) {
        Action a = action(action);
        range(in(what, 0, 2));
        return what == 0 ? a.became : what == 1 ? a.began : a.ended;
    }

    public int found(int action, int place) {
        Action a = action(action);
        place(place >= 0);
        if (a.kept == null || place >= a.kept.found.size()) return -1;
        List<Integer> f = a.kept.found.get(place);
        return f.get(1) == -1 ? -2 - f.get(0) : 1000 * f.get(0) + f.get(1);
    }

    public int output(int target) {
        int action = actionOf(target);
        return action == -1 || actions.get(action).kept == null ? -1 : actions.get(action).kept.content;
    }

    public int outputFromNothing(int target) {
        at(target);
        return errors(target).isEmpty() ? fromNothing(target, settings, new HashMap<>()) : -1;
    }

    private int fromNothing(int target, List<Integer> configuration, Map<List<Object>, Integer> known) {
        List<Object> key = List.of(target, configuration);
        if (known.containsKey(key)) return known.get(key);
        Target t = targets.get(target);
        List<Integer> contents = new ArrayList<>();
        List<Integer> paths = new ArrayList<>();
        for (int[] item : t.items) {
            if (item[0] == 2) {
                contents.add(fromNothing(item[1], below(t, configuration), known));
                continue;
            }
            List<Integer> more = item[0] == 0 ? List.of(item[1]) : globOf(t.directory, item[1], item[2] == 1);
            paths.addAll(more);
            for (int path : more) contents.add(files[path]);
        }
        int content = -1;
        if (!contents.contains(-1)) {
            Outcome outcome = perform(t.operation, numberOf(t, configuration), versionOf(t, configuration), t.directory, paths, contents);
            content = outcome.content == null ? -1 : outcome.content;
        }
        known.put(key, content);
        return content;
    }

    // ---- tests

    private int tries;
    private long seed = 1;

    public int test(int target) {
        Target t = at(target);
        fit(t.shards > 0);
        int done = build(1 << target, false, 0);
        tries = 0;
        if (done != 1) return -1;
        int content = actions.get(actionOf(target)).content;
        int passed = 0;
        t.fates = new int[] {-1, -1, -1, -1};
        for (int k = 0; k < t.shards; k++) {
            t.fates[k] = t.luck == 0 ? plainFate(t, content, k) : luckyFate(t.luck, content, k);
            if (t.fates[k] == 0) passed++;
        }
        return passed;
    }

    private int plainFate(Target t, int content, int k) {
        if (t.kept.add(List.of(content, k))) tries++;
        return (content + k) % 4 == 3 ? 2 : 0;
    }

    private int luckyFate(int luck, int content, int k) {
        for (int attempt = 1; attempt <= 3; attempt++) {
            tries++;
            seed = (seed * 1103515245L + 12345) % 2147483648L;
            long draw = seed / 65536 % 10;
            if (draw >= luck && (content + k) % 4 != 3) return attempt == 1 ? 0 : 1;
        }
        return 2;
    }

    public int shard(int target, int shard) {
        Target t = at(target);
        place(in(shard, 0, 3));
        return t.fates[shard];
    }

    public int tries() {
        return tries;
    }

    public void seed(int seed) {
        range(seed >= 0);
        this.seed = seed;
    }

    // ---- queries

    private Set<Integer> direct(int target) {
        Set<Integer> inner = new java.util.TreeSet<>();
        for (int[] item : targets.get(target).items) if (item[0] == 2) inner.add(item[1]);
        return inner;
    }

    private boolean reaches(int target, int other) {
        if (target == other) return true;
        for (int inner : direct(target)) if (inner >= other && reaches(inner, other)) return true;
        return false;
    }

    private List<Integer> way(int target, int other, int length) {
        if (target == other) return length == 0 ? new ArrayList<>(List.of(target)) : null;
        if (length == 0) return null;
        for (int inner : direct(target)) {
            List<Integer> rest = inner < other ? null : way(inner, other, length - 1);
            if (rest != null) {
                rest.add(0, target);
                return rest;
            }
        }
        return null;
    }

    public int someWay(int target, int other, int place) {
        at(target);
        at(other);
        place(place >= 0);
        for (int length = 0; length < 16; length++) {
            List<Integer> way = way(target, other, length);
            if (way != null) return place < way.size() ? way.get(place) : -1;
        }
        return -1;
    }

    public int allWays(int target, int other) {
        at(target);
        at(other);
        int bits = 0;
        for (int t = 0; t < targets.size(); t++) {
            if (t <= target && t >= other && reaches(target, t) && reaches(t, other)) bits |= 1 << t;
        }
        return bits;
    }

    public int above(int target) {
        at(target);
        int bits = 0;
        for (int t = target; t < targets.size(); t++) if (reaches(t, target)) bits |= 1 << t;
        return bits;
    }

    @Override
    public String toString() {
        return "time " + time + ", told " + Arrays.toString(told);
    }
}
