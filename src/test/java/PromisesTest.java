/** The promises 1 to 50, one by one: ordinary inputs, the edges that the document names, and wrong inputs. */
public final class PromisesTest {
    private static final int NONE = Buildmill.NONE;
    private static final int LOW = Integer.MIN_VALUE;
    private static final int HIGH = Integer.MAX_VALUE;
    private static final Check C = new Check();

    public static void main(String[] args) {
        constants();
        newObject();
        write();
        erase();
        pack();
        packageOf();
        globbed();
        state();
        unstate();
        value();
        listAt();
        ruleFailure();
        setting();
        toolchain();
        untool();
        target();
        numberFrom();
        choose();
        source();
        glob();
        depend();
        drop();
        uses();
        transit();
        work();
        shards();
        targetError();
        workers();
        sandbox();
        far();
        lose();
        lostDeeply();
        forget();
        entries();
        build();
        buildWithErrors();
        buildInTime();
        buildWithLimit();
        buildInBothWays();
        manyWays();
        told();
        failedFirst();
        critical();
        actions();
        actionOf();
        input();
        became();
        found();
        output();
        outputFromNothing();
        test();
        shard();
        tries();
        seed();
        someWay();
        allWays();
        above();
        C.end();
    }

    private static void constants() {
        C.promise(1);
        C.due("NONE", NONE, -1);
        C.due("IS_LIST", Buildmill.IS_LIST, -2);
        int[] got = {
            Buildmill.SET, Buildmill.LOAD, Buildmill.ADD, Buildmill.LIST, Buildmill.PUSH, Buildmill.SHARE, Buildmill.WHEN,
            Buildmill.JOIN, Buildmill.STRIP, Buildmill.MOST, Buildmill.TALLY, Buildmill.CHECK, Buildmill.INCLUDE,
            Buildmill.UP_TO_DATE, Buildmill.NEAR, Buildmill.FROM_FAR, Buildmill.RAN, Buildmill.RAN_FAR, Buildmill.FAILED,
            Buildmill.SKIPPED, Buildmill.CANCELLED, Buildmill.PASSED, Buildmill.FLAKY, Buildmill.BROKEN};
        int[] due = {0, 1, 2, 3, 4, 5, 6, 0, 1, 2, 3, 4, 5, 0, 1, 2, 3, 4, 5, 6, 7, 0, 1, 2};
        for (int i = 0; i < due.length; i++) C.due("constant from 0 on " + i, got[i], due[i]);
        int[] reasons = {
            Buildmill.UNSET, Buildmill.KIND, Buildmill.FROZEN, Buildmill.FULL, Buildmill.CYCLE, Buildmill.LOADED,
            Buildmill.NO_PACKAGE, Buildmill.NO_RULE, Buildmill.NO_TOOL, Buildmill.CROSSES, Buildmill.MISSING,
            Buildmill.DEPENDS, Buildmill.TOO_MANY};
        int[] dueReasons = {1, 2, 3, 4, 5, 6, 1, 2, 3, 4, 5, 6, 7};
        for (int i = 0; i < reasons.length; i++) C.due("constant from 1 on " + i, reasons[i], dueReasons[i]);
    }

    private static void newObject() {
        C.promise(1);
        Buildmill b = new Buildmill();
        for (int path = 0; path < 48; path++) {
            C.due("packageOf " + path, b.packageOf(path), 0);
            C.due("erase " + path, b.erase(path), NONE);
        }
        C.due("globbed", b.globbed(0, 255, true), 0);
        for (int file = 0; file < 6; file++) {
            C.due("value", b.value(file, 0), NONE);
            C.due("ruleFailure", b.ruleFailure(file, 0), NONE);
            int empty = file;
            C.noPlace("no statement", () -> b.unstate(empty, 0));
        }
        for (int setting = 0; setting < 4; setting++) C.due("setting", b.setting(setting, 0), 0);
        C.noPlace("no toolchain", () -> b.untool(0));
        C.noPlace("no target", () -> b.above(0));
        C.due("actions", b.actions(), 0);
        C.due("near entries", b.entries(false), 0);
        C.due("far entries", b.entries(true), 0);
        C.due("failedFirst", b.failedFirst(), NONE);
        C.due("critical", b.critical(0), NONE);
        for (int what = 0; what < 12; what++) C.due("told " + what, b.told(what), 0);
        C.due("tries", b.tries(), 0);
        for (int kind = 0; kind < 3; kind++) C.due("workers", b.workers(kind, 1), 1);
        C.due("sandbox is on", b.sandbox(true), true);

        Buildmill late = Mills.withFiles();
        int target = Mills.one(late, Buildmill.JOIN, 0, 0);
        late.build(1, false, 0);
        late.write(0, 500);
        late.build(1, false, 0);
        late.write(0, 1);
        late.forget(false);
        late.build(1, false, 0);
        C.due("from far", late.became(late.actionOf(target), 0), Buildmill.FROM_FAR);
        C.due("the latency is 2", late.told(0), 2);
        C.due("far can be reached", late.far(true, 1), true);
    }

    private static void write() {
        C.promise(2);
        Buildmill b = new Buildmill();
        C.due("no file before", b.write(0, 0), NONE);
        C.due("a file before", b.write(0, 999), 0);
        C.due("the last path", b.write(47, 7), NONE);
        C.due("again", b.write(47, 7), 7);
        C.due("and 999", b.write(0, 5), 999);
        C.noPlace("path -1", () -> b.write(-1, 0));
        C.noPlace("path 48", () -> b.write(48, 0));
        C.noPlace("the path ahead of the content", () -> b.write(LOW, 1000));
        C.noRange("content -1", () -> b.write(0, -1));
        C.noRange("content 1000", () -> b.write(0, 1000));
        C.noRange("content HIGH", () -> b.write(0, HIGH));
        C.due("nothing changed", b.write(0, 5), 5);
    }

    private static void erase() {
        C.promise(3);
        Buildmill b = new Buildmill();
        C.due("none", b.erase(3), NONE);
        b.write(3, 0);
        C.due("its content", b.erase(3), 0);
        C.due("gone", b.erase(3), NONE);
        b.write(47, 12);
        C.due("the last path", b.erase(47), 12);
        C.due("write behind it", b.write(47, 1), NONE);
        C.noPlace("-1", () -> b.erase(-1));
        C.noPlace("48", () -> b.erase(48));
        C.noPlace("HIGH", () -> b.erase(HIGH));
    }

    private static void pack() {
        C.promise(4);
        Buildmill b = new Buildmill();
        C.due("was none", b.pack(1, true), false);
        C.due("was one", b.pack(1, true), true);
        C.due("still one", b.pack(1, false), true);
        C.due("none again", b.pack(1, false), false);
        C.due("the last one", b.pack(5, true), false);
        C.due("others stay", b.packageOf(16), 0);
        C.due("it is one", b.packageOf(40), 5);
        C.noPlace("-1", () -> b.pack(-1, true));
        C.noPlace("6", () -> b.pack(6, true));
        C.noState("0 to none", () -> b.pack(0, false));
        C.noState("0 to one", () -> b.pack(0, true));
        C.due("nothing changed", b.packageOf(0), 0);
    }

    private static void packageOf() {
        C.promise(5);
        Buildmill b = new Buildmill();
        b.pack(1, true);
        int[] one = {0, 1, 0, 1, 1, 0};
        for (int path = 0; path < 48; path++) C.due("with 1, path " + path, b.packageOf(path), one[path / 8]);
        b.pack(4, true);
        b.pack(2, true);
        int[] three = {0, 1, 2, 1, 4, 2};
        for (int path = 0; path < 48; path++) C.due("with 1, 2, 4, path " + path, b.packageOf(path), three[path / 8]);
        b.pack(1, false);
        b.pack(5, true);
        int[] left = {0, 0, 2, 0, 4, 5};
        for (int path = 0; path < 48; path++) C.due("with 2, 4, 5, path " + path, b.packageOf(path), left[path / 8]);
        C.noPlace("-1", () -> b.packageOf(-1));
        C.noPlace("48", () -> b.packageOf(48));
        C.noPlace("LOW", () -> b.packageOf(LOW));
    }

    private static void globbed() {
        C.promise(6);
        Buildmill b = new Buildmill();
        for (int path : new int[] {0, 3, 8, 11, 24, 32, 47}) b.write(path, path);
        C.due("not deep", b.globbed(0, 255, false), 1L | 1L << 3);
        C.due("deep", b.globbed(0, 255, true), 1L | 1L << 3 | 1L << 8 | 1L << 11 | 1L << 24 | 1L << 32 | 1L << 47);
        C.due("names", b.globbed(0, 1, true), 1L | 1L << 8 | 1L << 24 | 1L << 32);
        C.due("the name 7", b.globbed(0, 128, true), 1L << 47);
        C.due("no names", b.globbed(0, 0, true), 0);
        b.pack(1, true);
        C.due("a package ends it", b.globbed(0, 255, true), 1L | 1L << 3 | 1L << 47);
        C.due("the package", b.globbed(1, 255, false), 1L << 8 | 1L << 11);
        C.due("the package, deep", b.globbed(1, 8 | 1, true), 1L << 8 | 1L << 11 | 1L << 24 | 1L << 32);
        b.pack(4, true);
        C.due("a package within", b.globbed(1, 255, true), 1L << 8 | 1L << 11 | 1L << 24);
        b.erase(8);
        C.due("erased", b.globbed(1, 255, false), 1L << 11);
        C.noPlace("-1", () -> b.globbed(-1, 0, false));
        C.noPlace("6 ahead of the names", () -> b.globbed(6, 256, false));
        C.noRange("names -1", () -> b.globbed(0, -1, false));
        C.noRange("names 256, ahead of no package", () -> b.globbed(2, 256, true));
        C.noState("no package", () -> b.globbed(2, 255, true));
    }

    // ---- rule files

    private static void state() {
        C.promise(7);
        Buildmill b = new Buildmill();
        C.due("SET", b.state(0, Buildmill.SET, 7, 999, 0), 1);
        C.due("LOAD", b.state(0, Buildmill.LOAD, 0, 7, 5), 2);
        C.due("ADD", b.state(0, Buildmill.ADD, 0, 7, 0), 3);
        C.due("LIST", b.state(0, Buildmill.LIST, 0, 0, 0), 4);
        C.due("PUSH", b.state(0, Buildmill.PUSH, 0, 7, 0), 5);
        C.due("SHARE", b.state(0, Buildmill.SHARE, 0, 7, 0), 6);
        C.due("WHEN", b.state(0, Buildmill.WHEN, 7, 0, 0), 7);
        C.due("another file", b.state(5, Buildmill.SET, 0, 0, 0), 1);
        C.noPlace("file -1", () -> b.state(-1, 0, 0, 0, 0));
        C.noPlace("file 6", () -> b.state(6, 9, 0, 0, 0));
        C.noPlace("n -1", () -> b.state(0, 0, -1, 0, 0));
        C.noPlace("n 8 ahead of the kind", () -> b.state(0, 9, 8, 0, 0));
        for (int kind : new int[] {Buildmill.LOAD, Buildmill.ADD, Buildmill.PUSH, Buildmill.SHARE}) {
            C.noPlace("m 8", () -> b.state(0, kind, 0, 8, 0));
            C.noPlace("m -1", () -> b.state(0, kind, 0, -1, 0));
        }
        C.noPlace("m is no name, ahead of from", () -> b.state(0, Buildmill.ADD, 0, 8, 1));
        C.noPlace("from -1", () -> b.state(0, Buildmill.LOAD, 0, 0, -1));
        C.noPlace("from 6", () -> b.state(0, Buildmill.LOAD, 0, 0, 6));
        C.noRange("kind -1", () -> b.state(0, -1, 0, 0, 0));
        C.noRange("kind 7", () -> b.state(0, 7, 0, 0, 0));
        C.noRange("SET 1000", () -> b.state(0, Buildmill.SET, 0, 1000, 0));
        C.noRange("SET -1", () -> b.state(0, Buildmill.SET, 0, -1, 0));
        C.noRange("LIST with m", () -> b.state(0, Buildmill.LIST, 0, 1, 0));
        C.noRange("WHEN with m", () -> b.state(0, Buildmill.WHEN, 0, -1, 0));
        for (int kind : new int[] {0, 2, 3, 4, 5, 6}) {
            C.noRange("from where there is none", () -> b.state(0, kind, 0, 0, 1));
            C.noRange("from -1 where there is none", () -> b.state(0, kind, 0, 0, -1));
        }
        for (int i = 8; i <= 12; i++) C.due("up to 12", b.state(0, Buildmill.SET, 0, 0, 0), i);
        C.noState("a 13th", () -> b.state(0, Buildmill.SET, 0, 0, 0));
        C.noRange("the range ahead of the 13th", () -> b.state(0, Buildmill.SET, 0, 1000, 0));
        C.due("other files have place", b.state(5, Buildmill.SET, 0, 0, 0), 2);
        C.due("a place again", b.unstate(0, 0), 11);
        C.due("and taken", b.state(0, Buildmill.SET, 0, 0, 0), 12);
    }

    private static void unstate() {
        C.promise(8);
        Buildmill b = new Buildmill();
        for (int i = 0; i < 4; i++) b.state(2, Buildmill.SET, i, 10 + i, 0);
        C.due("value ahead", b.value(2, 1), 11);
        C.due("the second one", b.unstate(2, 1), 3);
        C.due("gone", b.value(2, 1), NONE);
        C.due("moved up", b.value(2, 3), 13);
        C.due("the first one", b.unstate(2, 0), 2);
        C.due("gone, too", b.value(2, 0), NONE);
        C.due("still there", b.value(2, 2), 12);
        C.noPlace("statement 2", () -> b.unstate(2, 2));
        C.noPlace("statement -1", () -> b.unstate(2, -1));
        C.noPlace("file 6", () -> b.unstate(6, 0));
        C.noPlace("file -1", () -> b.unstate(-1, 0));
        C.due("the last one", b.unstate(2, 1), 1);
        C.due("none left", b.unstate(2, 0), 0);
        C.noPlace("none to take", () -> b.unstate(2, 0));
        Buildmill loads = new Buildmill();
        loads.state(0, Buildmill.SET, 0, 4, 0);
        loads.state(1, Buildmill.SET, 1, 9, 0);
        loads.state(1, Buildmill.LOAD, 1, 0, 0);
        loads.unstate(1, 0);
        C.due("all of a statement moves", loads.value(1, 1), 4);
    }

    private static void value() {
        C.promise(9);
        Buildmill b = new Buildmill();
        b.state(0, Buildmill.SET, 0, 999, 0);
        b.state(0, Buildmill.SET, 1, 3, 0);
        b.state(0, Buildmill.ADD, 0, 1, 0);
        C.due("ADD modulo 1000", b.value(0, 0), 2);
        C.due("m stays", b.value(0, 1), 3);
        C.due("nothing", b.value(0, 7), NONE);
        b.state(0, Buildmill.ADD, 1, 1, 0);
        C.due("to itself", b.value(0, 1), 6);
        b.state(0, Buildmill.LIST, 2, 0, 0);
        C.due("a list", b.value(0, 2), Buildmill.IS_LIST);
        b.state(0, Buildmill.SHARE, 3, 2, 0);
        b.state(0, Buildmill.SHARE, 4, 0, 0);
        C.due("SHARE of a list", b.value(0, 3), Buildmill.IS_LIST);
        C.due("SHARE of a number", b.value(0, 4), 2);
        b.state(1, Buildmill.LOAD, 5, 4, 0);
        b.state(1, Buildmill.LOAD, 6, 2, 0);
        C.due("LOAD of a number", b.value(1, 5), 2);
        C.due("LOAD of a list", b.value(1, 6), Buildmill.IS_LIST);
        C.due("LOAD takes no other name", b.value(1, 4), NONE);
        b.state(0, Buildmill.SET, 4, 8, 0);
        C.due("evaluated anew", b.value(1, 5), 8);
        b.state(0, Buildmill.PUSH, 0, 0, 0);
        C.due("failing", b.value(0, 1), NONE);
        C.due("loading what fails", b.value(1, 5), NONE);

        Buildmill w = new Buildmill();
        w.state(0, Buildmill.SET, 0, 0, 0);
        w.state(0, Buildmill.SET, 1, 1, 0);
        w.state(0, Buildmill.WHEN, 0, 0, 0);
        w.state(0, Buildmill.SET, 2, 5, 0);
        w.state(0, Buildmill.WHEN, 1, 0, 0);
        w.state(0, Buildmill.SET, 3, 6, 0);
        w.state(0, Buildmill.WHEN, 0, 0, 0);
        w.state(0, Buildmill.WHEN, 0, 0, 0);
        w.state(0, Buildmill.SET, 4, 7, 0);
        w.state(0, Buildmill.WHEN, 0, 0, 0);
        C.due("left out", w.value(0, 2), NONE);
        C.due("not left out", w.value(0, 3), 6);
        C.due("a WHEN is left out", w.value(0, 4), 7);
        C.due("WHEN at the end", w.ruleFailure(0, 0), NONE);
        C.noPlace("file -1", () -> w.value(-1, 0));
        C.noPlace("file 6", () -> w.value(6, 0));
        C.noPlace("name -1", () -> w.value(0, -1));
        C.noPlace("name 8", () -> w.value(0, 8));
    }

    private static void listAt() {
        C.promise(10);
        Buildmill b = new Buildmill();
        b.state(0, Buildmill.SET, 0, 7, 0);
        b.state(0, Buildmill.LIST, 1, 0, 0);
        b.state(0, Buildmill.PUSH, 1, 0, 0);
        b.state(0, Buildmill.SHARE, 2, 1, 0);
        b.state(0, Buildmill.ADD, 0, 0, 0);
        b.state(0, Buildmill.PUSH, 2, 0, 0);
        C.due("first", b.listAt(0, 1, 0), 7);
        C.due("the same list by another name", b.listAt(0, 1, 1), 14);
        C.due("and the other way", b.listAt(0, 2, 0), 7);
        C.due("not so many", b.listAt(0, 1, 2), NONE);
        C.due("by far not so many", b.listAt(0, 1, HIGH), NONE);
        C.due("a number is no list", b.listAt(0, 0, 0), NONE);
        C.due("nothing is no list", b.listAt(0, 5, 0), NONE);
        b.state(1, Buildmill.LOAD, 3, 2, 0);
        C.due("loaded", b.listAt(1, 3, 1), 14);
        b.state(0, Buildmill.LIST, 1, 0, 0);
        C.due("a new list", b.listAt(0, 1, 0), NONE);
        C.due("the old one stays", b.listAt(0, 2, 1), 14);
        b.state(0, Buildmill.ADD, 7, 7, 0);
        C.due("failing", b.listAt(0, 2, 0), NONE);
        manyLists();
        C.noPlace("file -1", () -> b.listAt(-1, 0, 0));
        C.noPlace("file 6", () -> b.listAt(6, 0, 0));
        C.noPlace("name -1", () -> b.listAt(0, -1, 0));
        C.noPlace("name 8", () -> b.listAt(0, 8, 0));
        C.noPlace("place -1", () -> b.listAt(0, 0, -1));
    }

    /** 60 lists, of which the first and the last get numbers. */
    private static void manyLists() {
        Buildmill b = new Buildmill();
        for (int file = 5; file >= 0; file--) {
            b.state(file, Buildmill.SET, 7, file + 1, 0);
            for (int i = 0; i < 9; i++) b.state(file, Buildmill.LIST, i % 5, 0, 0);
            b.state(file, Buildmill.PUSH, 0, 7, 0);
            if (file < 5) b.state(file, Buildmill.LOAD, 6, file == 4 ? 0 : 6, file + 1);
        }
        C.due("none fails", b.ruleFailure(0, 0), NONE);
        C.due("the first list, through all files", b.listAt(0, 6, 0), 6);
        C.due("a list of the last file", b.listAt(0, 0, 0), 1);
        C.due("without more numbers", b.listAt(0, 0, 1), NONE);
        C.due("a list between", b.listAt(3, 0, 0), 4);
    }

    private static void ruleFailure() {
        C.promise(11);
        Buildmill u = new Buildmill();
        u.state(0, Buildmill.SET, 0, 1, 0);
        C.due("no failure", u.ruleFailure(0, 0), NONE);
        u.state(0, Buildmill.ADD, 0, 1, 0);
        C.due("UNSET of m", u.ruleFailure(0, 0), 10 + Buildmill.UNSET);
        C.due("no cause", u.ruleFailure(0, 1), NONE);
        C.due("no cause by far", u.ruleFailure(0, HIGH), NONE);
        failure("ADD to nothing", Buildmill.UNSET, 1, Buildmill.SET, 0, 1, Buildmill.ADD, 1, 0);
        failure("PUSH to nothing", Buildmill.UNSET, 1, Buildmill.SET, 0, 1, Buildmill.PUSH, 1, 0);
        failure("PUSH of nothing", Buildmill.UNSET, 1, Buildmill.LIST, 0, 0, Buildmill.PUSH, 0, 1);
        failure("PUSH of nothing to a number", Buildmill.UNSET, 1, Buildmill.SET, 0, 0, Buildmill.PUSH, 0, 1);
        failure("SHARE of nothing", Buildmill.UNSET, 0, Buildmill.SHARE, 0, 1);
        failure("WHEN of nothing", Buildmill.UNSET, 0, Buildmill.WHEN, 0, 0);
        failure("ADD of a list", Buildmill.KIND, 2, Buildmill.SET, 0, 1, Buildmill.LIST, 1, 0, Buildmill.ADD, 0, 1);
        failure("ADD to a list", Buildmill.KIND, 2, Buildmill.SET, 0, 1, Buildmill.LIST, 1, 0, Buildmill.ADD, 1, 0);
        failure("PUSH to a number", Buildmill.KIND, 1, Buildmill.SET, 0, 1, Buildmill.PUSH, 0, 0);
        failure("PUSH of a list", Buildmill.KIND, 1, Buildmill.LIST, 0, 0, Buildmill.PUSH, 0, 0);
        failure("WHEN of a list", Buildmill.KIND, 1, Buildmill.LIST, 0, 0, Buildmill.WHEN, 0, 0);

        Buildmill full = new Buildmill();
        full.state(3, Buildmill.SET, 0, 1, 0);
        full.state(3, Buildmill.LIST, 1, 0, 0);
        for (int i = 0; i < 8; i++) full.state(3, Buildmill.PUSH, 1, 0, 0);
        C.due("8 numbers", full.ruleFailure(3, 0), NONE);
        C.due("the 8th", full.listAt(3, 1, 7), 1);
        full.state(3, Buildmill.PUSH, 1, 0, 0);
        C.due("FULL", full.ruleFailure(3, 0), 3100 + Buildmill.FULL);

        Buildmill frozen = new Buildmill();
        frozen.state(5, Buildmill.LIST, 0, 0, 0);
        frozen.state(1, Buildmill.LOAD, 2, 0, 5);
        frozen.state(1, Buildmill.SET, 0, 1, 0);
        C.due("loaded", frozen.ruleFailure(1, 0), NONE);
        frozen.state(1, Buildmill.PUSH, 2, 0, 0);
        C.due("FROZEN", frozen.ruleFailure(1, 0), 1020 + Buildmill.FROZEN);
        frozen.unstate(1, 1);
        C.due("UNSET ahead of FROZEN", frozen.ruleFailure(1, 0), 1010 + Buildmill.UNSET);

        Buildmill c = new Buildmill();
        c.state(2, Buildmill.LOAD, 0, 0, 2);
        C.due("a file loads itself", c.ruleFailure(2, 0), 2000 + Buildmill.CYCLE);
        C.due("and that has no cause", c.ruleFailure(2, 1), NONE);
        c.unstate(2, 0);
        c.state(2, Buildmill.SET, 0, 1, 0);
        c.state(2, Buildmill.LOAD, 0, 0, 3);
        c.state(3, Buildmill.LOAD, 0, 0, 4);
        c.state(4, Buildmill.SET, 0, 1, 0);
        c.state(4, Buildmill.LOAD, 1, 0, 3);
        C.due("LOADED", c.ruleFailure(2, 0), 2010 + Buildmill.LOADED);
        C.due("its cause is LOADED", c.ruleFailure(2, 1), 3000 + Buildmill.LOADED);
        C.due("the cause of that is CYCLE", c.ruleFailure(2, 2), 4010 + Buildmill.CYCLE);
        C.due("no more causes", c.ruleFailure(2, 3), NONE);
        C.due("from 4 on the other way round", c.ruleFailure(4, 1), 3000 + Buildmill.CYCLE);
        c.unstate(4, 1);
        C.due("mended", c.ruleFailure(2, 0), NONE);
        c.unstate(4, 0);
        C.due("UNSET is the loading file's", c.ruleFailure(3, 0), 3000 + Buildmill.UNSET);
        c.state(5, Buildmill.LOAD, 0, 7, 2);
        C.due("LOADED ahead of UNSET", c.ruleFailure(5, 0), 5000 + Buildmill.LOADED);
        C.noPlace("file -1", () -> c.ruleFailure(-1, 0));
        C.noPlace("file 6", () -> c.ruleFailure(6, 0));
        C.noPlace("depth -1", () -> c.ruleFailure(0, -1));
    }

    /** A file with statements, three numbers each, fails at one of them. */
    private static void failure(String what, int reason, int statement, int... rows) {
        Buildmill b = new Buildmill();
        for (int i = 0; i + 2 < rows.length; i += 3) b.state(4, rows[i], rows[i + 1], rows[i + 2], 0);
        C.due(what, b.ruleFailure(4, 0), 4000 + 10 * statement + reason);
    }

    // ---- settings, toolchains

    private static void setting() {
        C.promise(12);
        Buildmill b = new Buildmill();
        C.due("0 at first", b.setting(3, 3), 0);
        C.due("the value before", b.setting(3, 1), 3);
        C.due("others stay", b.setting(2, 2), 0);
        C.due("and this one", b.setting(3, 0), 1);
        C.due("and that one", b.setting(2, 0), 2);
        C.noPlace("-1", () -> b.setting(-1, 0));
        C.noPlace("4 ahead of the value", () -> b.setting(4, 4));
        C.noRange("value -1", () -> b.setting(0, -1));
        C.noRange("value 4", () -> b.setting(0, 4));
        C.due("nothing changed", b.setting(0, 0), 0);
    }

    private static void toolchain() {
        C.promise(13);
        Buildmill b = Mills.withFiles();
        int target = Mills.one(b, Buildmill.TALLY, 0, 0);
        b.uses(target, 2);
        C.due("the first one", b.toolchain(1, NONE, 0, 10), 1);
        C.due("no such type", b.targetError(target, 0), Buildmill.NO_TOOL);
        C.due("it needs a setting", b.toolchain(2, 3, 2, 20), 2);
        C.due("its need does not hold", b.targetError(target, 0), Buildmill.NO_TOOL);
        b.setting(3, 2);
        C.due("it holds", b.outputFromNothing(target), 21);
        C.due("another one", b.toolchain(2, NONE, 0, 99), 3);
        C.due("the first that fits", b.outputFromNothing(target), 21);
        b.setting(3, 1);
        C.due("the one without a need", b.outputFromNothing(target), 100);
        C.noPlace("setting -2", () -> b.toolchain(0, -2, 0, 0));
        C.noPlace("setting 4 ahead of the type", () -> b.toolchain(3, 4, 0, 0));
        C.noRange("type -1", () -> b.toolchain(-1, 0, 0, 0));
        C.noRange("type 3", () -> b.toolchain(3, 0, 0, 0));
        C.noRange("value -1", () -> b.toolchain(0, 0, -1, 0));
        C.noRange("value 4", () -> b.toolchain(0, 0, 4, 0));
        C.noRange("a value without a need", () -> b.toolchain(0, NONE, 1, 0));
        C.noRange("version -1", () -> b.toolchain(0, NONE, 0, -1));
        C.noRange("version 100", () -> b.toolchain(0, NONE, 0, 100));
        for (int i = 4; i <= 8; i++) C.due("up to 8", b.toolchain(0, 0, 3, 0), i);
        C.noState("a 9th", () -> b.toolchain(0, 0, 3, 0));
        C.noRange("the range ahead of the 9th", () -> b.toolchain(0, 0, 3, 100));
    }

    private static void untool() {
        C.promise(14);
        Buildmill b = Mills.withFiles();
        int target = Mills.one(b, Buildmill.TALLY, 0, 0);
        b.uses(target, 1);
        b.toolchain(1, 0, 0, 10);
        b.toolchain(0, 1, 1, 20);
        b.toolchain(1, 2, 0, 30);
        C.due("the first one", b.outputFromNothing(target), 11);
        C.noPlace("-1", () -> b.untool(-1));
        C.noPlace("3", () -> b.untool(3));
        C.due("away", b.untool(0), 2);
        C.due("the next one", b.outputFromNothing(target), 31);
        b.setting(2, 1);
        C.due("its need moved up, too", b.targetError(target, 0), Buildmill.NO_TOOL);
        C.due("the last one", b.untool(1), 1);
        C.due("the last of all", b.untool(0), 0);
        C.noPlace("none", () -> b.untool(0));
        C.due("a place again", b.toolchain(0, NONE, 0, 0), 1);
    }

    // ---- targets

    private static void target() {
        C.promise(15);
        Buildmill b = new Buildmill();
        C.due("the first one", b.target(0, Buildmill.JOIN, 999), 0);
        C.due("the second one", b.target(5, Buildmill.INCLUDE, 0), 1);
        C.due("without items", b.outputFromNothing(0), 999);
        C.due("of its directory", b.targetError(1, 0), 10 + Buildmill.NO_PACKAGE);
        b.build(1, false, 0);
        C.due("with the duration 1", b.told(0), 1);
        b.workers(0, 2);
        b.build(1, false, 0);
        C.noState("no items to drop", () -> b.drop(0));
        C.noPlace("directory -1", () -> b.target(-1, 0, 0));
        C.noPlace("directory 6 ahead of the operation", () -> b.target(6, 6, 0));
        C.noRange("operation -1", () -> b.target(0, -1, 0));
        C.noRange("operation 6", () -> b.target(0, 6, 0));
        C.noRange("number -1", () -> b.target(0, 0, -1));
        C.noRange("number 1000", () -> b.target(0, 0, 1000));
        for (int i = 2; i < 16; i++) C.due("up to 16", b.target(0, 0, 0), i);
        C.noState("a 17th", () -> b.target(0, 0, 0));
        C.noRange("the range ahead of the 17th", () -> b.target(0, 0, 1000));

        Buildmill kinds = Mills.withFiles();
        Mills.one(kinds, Buildmill.JOIN, 0, 0);
        Mills.one(kinds, Buildmill.JOIN, 0, 1);
        kinds.work(1, 1, 1, false);
        kinds.build(3, false, 0);
        C.due("of the kind 0", kinds.told(0), 1);
    }

    private static void numberFrom() {
        C.promise(16);
        Buildmill b = Mills.withFiles();
        int target = Mills.one(b, Buildmill.TALLY, 5, 0);
        b.state(5, Buildmill.SET, 7, 100, 0);
        b.state(5, Buildmill.LIST, 6, 0, 0);
        b.numberFrom(target, 5, 7);
        C.due("from the file", b.outputFromNothing(target), 101);
        b.state(5, Buildmill.ADD, 7, 7, 0);
        C.due("found anew", b.outputFromNothing(target), 201);
        b.numberFrom(target, 5, 6);
        C.due("a list is no number", b.targetError(target, 0), Buildmill.NO_RULE);
        b.numberFrom(target, 5, 0);
        C.due("nothing is no number", b.targetError(target, 0), Buildmill.NO_RULE);
        b.choose(target, 0, 0, 50);
        C.due("a condition comes first", b.outputFromNothing(target), 51);
        b.setting(0, 1);
        C.due("not if it does not hold", b.targetError(target, 0), Buildmill.NO_RULE);
        b.numberFrom(target, 5, 7);
        b.state(5, Buildmill.WHEN, 0, 0, 0);
        C.due("the file fails", b.targetError(target, 0), Buildmill.NO_RULE);
        C.noPlace("target 1", () -> b.numberFrom(1, 0, 0));
        C.noPlace("target -1", () -> b.numberFrom(-1, 0, 0));
        C.noPlace("file 6", () -> b.numberFrom(0, 6, 0));
        C.noPlace("file -1", () -> b.numberFrom(0, -1, 0));
        C.noPlace("name 8", () -> b.numberFrom(0, 0, 8));
        C.noPlace("name -1", () -> b.numberFrom(0, 0, -1));
    }

    private static void choose() {
        C.promise(17);
        Buildmill b = new Buildmill();
        b.target(0, Buildmill.JOIN, 1);
        C.due("the first one", b.choose(0, 3, 3, 30), 1);
        C.due("its own number", b.outputFromNothing(0), 1);
        b.setting(3, 3);
        C.due("the condition's", b.outputFromNothing(0), 30);
        C.due("the second one", b.choose(0, 0, 0, 999), 2);
        C.due("the first that holds", b.outputFromNothing(0), 30);
        b.setting(3, 2);
        C.due("the next that holds", b.outputFromNothing(0), 999);
        C.noPlace("target 1", () -> b.choose(1, 0, 0, 0));
        C.noPlace("target -1", () -> b.choose(-1, 0, 0, 0));
        C.noPlace("setting -1", () -> b.choose(0, -1, 0, 0));
        C.noPlace("setting 4 ahead of the value", () -> b.choose(0, 4, 4, 0));
        C.noRange("value -1", () -> b.choose(0, 0, -1, 0));
        C.noRange("value 4", () -> b.choose(0, 0, 4, 0));
        C.noRange("number -1", () -> b.choose(0, 0, 0, -1));
        C.noRange("number 1000", () -> b.choose(0, 0, 0, 1000));
        C.due("the third one", b.choose(0, 1, 1, 0), 3);
        C.due("the fourth one", b.choose(0, 1, 2, 0), 4);
        C.noState("a fifth", () -> b.choose(0, 1, 0, 0));
        C.noRange("the range ahead of the fifth", () -> b.choose(0, 1, 0, 1000));
    }

    private static void source() {
        C.promise(18);
        Buildmill b = Mills.withFiles();
        b.target(0, Buildmill.JOIN, 0);
        C.due("the first one", b.source(0, 1), 1);
        C.due("the same again", b.source(0, 1), 2);
        C.due("another one", b.source(0, 0), 3);
        C.due("in their order", b.outputFromNothing(0), 11 + 2 * 11 + 3 * 1);
        C.due("a path without a file", b.source(0, 47), 4);
        C.due("is MISSING", b.targetError(0, 0), Buildmill.MISSING);
        b.write(47, 2);
        C.due("of a directory that belongs to it", b.outputFromNothing(0), 36 + 4 * 2);
        b.pack(5, true);
        C.due("CROSSES", b.targetError(0, 0), Buildmill.CROSSES);
        b.erase(47);
        C.due("CROSSES ahead of MISSING", b.targetError(0, 0), Buildmill.CROSSES);
        C.noPlace("target 1", () -> b.source(1, 0));
        C.noPlace("target -1", () -> b.source(-1, 0));
        C.noPlace("path -1", () -> b.source(0, -1));
        C.noPlace("path 48", () -> b.source(0, 48));
        C.due("the fifth", b.source(0, 0), 5);
        C.due("the sixth", b.source(0, 0), 6);
        C.noState("a seventh", () -> b.source(0, 0));
        C.noPlace("the place ahead of the seventh", () -> b.source(0, 48));
    }

    private static void glob() {
        C.promise(19);
        Buildmill b = Mills.withFiles();
        b.target(0, Buildmill.JOIN, 0);
        C.due("the first one", b.glob(0, 1 | 4, false), 1);
        C.due("by rising numbers", b.outputFromNothing(0), 1 + 2 * 21);
        b.write(8, 100);
        C.due("not deep", b.outputFromNothing(0), 43);
        C.due("a deep one", b.glob(0, 1, true), 2);
        C.due("behind the first", b.outputFromNothing(0), 43 + 3 * 1 + 4 * 100);
        b.pack(1, true);
        C.due("of its package", b.outputFromNothing(0), 43 + 3 * 1);
        b.target(1, Buildmill.JOIN, 5);
        b.glob(1, 255, true);
        C.due("of its directory", b.outputFromNothing(1), 105);
        b.erase(8);
        C.due("a glob that finds none is no error", b.outputFromNothing(1), 5);
        C.noPlace("target 2", () -> b.glob(2, 0, false));
        C.noPlace("target -1 ahead of the names", () -> b.glob(-1, 256, false));
        C.noRange("names -1", () -> b.glob(0, -1, false));
        C.noRange("names 256", () -> b.glob(0, 256, false));
        for (int i = 3; i <= 6; i++) C.due("up to 6", b.glob(0, 0, false), i);
        b.target(0, Buildmill.TALLY, 0);
        b.glob(2, 0, false);
        b.glob(2, 0, true);
        b.glob(2, 255, true);
        C.due("no names find nothing", b.outputFromNothing(2), 8);
        C.noState("a seventh", () -> b.glob(0, 0, false));
        C.noRange("the range ahead of the seventh", () -> b.glob(0, 256, false));
    }

    private static void depend() {
        C.promise(20);
        Buildmill b = Mills.withFiles();
        Mills.one(b, Buildmill.JOIN, 0, 1);
        Mills.one(b, Buildmill.JOIN, 0, 2);
        b.target(0, Buildmill.JOIN, 0);
        C.due("the first one", b.depend(2, 1), 1);
        C.due("the second one", b.depend(2, 0), 2);
        C.due("in their order", b.outputFromNothing(2), 21 + 2 * 11);
        C.due("the same again", b.depend(2, 1), 3);
        C.due("counts again", b.outputFromNothing(2), 43 + 3 * 21);
        C.noPlace("target 3", () -> b.depend(3, 0));
        C.noPlace("target -1", () -> b.depend(-1, 0));
        C.noPlace("other -1", () -> b.depend(2, -1));
        C.noPlace("other 3", () -> b.depend(2, 3));
        C.noRange("itself", () -> b.depend(2, 2));
        C.noRange("a higher one", () -> b.depend(0, 1));
        C.noRange("0 itself", () -> b.depend(0, 0));
        for (int i = 4; i <= 6; i++) C.due("up to 6", b.depend(2, 0), i);
        C.noState("a seventh", () -> b.depend(2, 0));
        C.noRange("the range ahead of the seventh", () -> b.depend(2, 2));
    }

    private static void drop() {
        C.promise(21);
        Buildmill b = Mills.withFiles();
        Mills.one(b, Buildmill.JOIN, 0, 1);
        b.source(0, 2);
        b.source(0, 3);
        C.due("the last one", b.drop(0), 2);
        C.due("away", b.outputFromNothing(0), 11 + 2 * 21);
        C.due("another one in its place", b.source(0, 4), 3);
        C.due("counts", b.outputFromNothing(0), 53 + 3 * 41);
        C.due("two left", b.drop(0), 2);
        C.due("one left", b.drop(0), 1);
        C.due("none left", b.drop(0), 0);
        C.noState("none", () -> b.drop(0));
        C.noPlace("target 1", () -> b.drop(1));
        C.noPlace("target -1", () -> b.drop(-1));
        C.due("nothing in it", b.outputFromNothing(0), 0);
    }

    private static void uses() {
        C.promise(22);
        Buildmill b = Mills.withFiles();
        Mills.one(b, Buildmill.TALLY, 1, 0);
        b.toolchain(0, NONE, 0, 50);
        b.toolchain(2, NONE, 0, 70);
        C.due("none at first", b.uses(0, 2), NONE);
        C.due("the version is added", b.outputFromNothing(0), 72);
        C.due("the type before", b.uses(0, 0), 2);
        C.due("another version", b.outputFromNothing(0), 52);
        C.due("a type without a toolchain", b.uses(0, 1), 0);
        C.due("NO_TOOL", b.targetError(0, 0), Buildmill.NO_TOOL);
        C.due("none again", b.uses(0, NONE), 1);
        C.due("without a version", b.outputFromNothing(0), 2);
        C.noPlace("target 1", () -> b.uses(1, 0));
        C.noPlace("target -1 ahead of the type", () -> b.uses(-1, 3));
        C.noRange("type -2", () -> b.uses(0, -2));
        C.noRange("type 3", () -> b.uses(0, 3));
        C.due("nothing changed", b.uses(0, NONE), NONE);
    }

    private static void transit() {
        C.promise(23);
        Buildmill b = Mills.withFiles();
        b.target(0, Buildmill.JOIN, 1);
        b.choose(0, 2, 3, 7);
        Mills.of(b, Buildmill.JOIN, 10, 0);
        b.choose(1, 2, 3, 20);
        Mills.of(b, Buildmill.JOIN, 100, 1, 0);
        C.due("no transition", b.outputFromNothing(2), 100 + 11 + 2 * 1);
        b.transit(1, 2, 3);
        C.due("of the targets among its items", b.outputFromNothing(1), 10 + 7);
        C.due("not of itself, nor of others", b.outputFromNothing(2), 100 + 17 + 2 * 1);
        b.transit(2, 2, 3);
        C.due("all below it", b.outputFromNothing(2), 100 + 27 + 2 * 7);
        b.transit(1, 2, 0);
        C.due("in place of another one", b.outputFromNothing(2), 100 + 21 + 2 * 7);
        b.transit(1, 1, 1);
        C.due("of another setting", b.outputFromNothing(2), 100 + 27 + 2 * 7);
        b.transit(2, NONE, 0);
        b.transit(1, NONE, 0);
        C.due("no transition again", b.outputFromNothing(2), 113);
        C.noPlace("target 3", () -> b.transit(3, 0, 0));
        C.noPlace("target -1", () -> b.transit(-1, 0, 0));
        C.noPlace("setting -2", () -> b.transit(0, -2, 0));
        C.noPlace("setting 4 ahead of the value", () -> b.transit(0, 4, 4));
        C.noRange("value -1", () -> b.transit(0, 0, -1));
        C.noRange("value 4", () -> b.transit(0, 0, 4));
        C.noRange("a value without a transition", () -> b.transit(0, NONE, 1));
    }

    private static void work() {
        C.promise(24);
        Buildmill b = Mills.withFiles();
        Mills.one(b, Buildmill.JOIN, 0, 0);
        Mills.one(b, Buildmill.JOIN, 0, 0);
        b.work(0, 0, 20, false);
        b.work(1, 1, 3, false);
        b.build(3, false, 0);
        C.due("one action for two targets", b.actions(), 1);
        C.due("run as that of the first one", b.told(0), 20);
        b.write(0, 2);
        b.build(2, false, 0);
        C.due("run as that of the one that found it last", b.told(0), 3);
        b.write(0, 3);
        b.work(1, 1, 7, false);
        b.build(2, false, 0);
        C.due("another duration, and warm", b.told(0), 4);
        Mills.one(b, Buildmill.JOIN, 5, 1);
        b.depend(2, 1);
        b.depend(2, 0);
        b.write(0, 4);
        b.build(4, false, 0);
        C.due("the first one by the order of items", b.became(0, 2), 4);
        C.noPlace("target 3", () -> b.work(3, 0, 1, false));
        C.noPlace("target -1", () -> b.work(-1, 0, 1, false));
        C.noPlace("kind -1", () -> b.work(0, -1, 1, false));
        C.noPlace("kind 3 ahead of the duration", () -> b.work(0, 3, 0, false));
        C.noRange("duration 0", () -> b.work(0, 0, 0, false));
        C.noRange("duration 21", () -> b.work(0, 0, 21, false));
    }

    private static void shards() {
        C.promise(25);
        Buildmill b = Mills.withFiles();
        Mills.one(b, Buildmill.JOIN, 0, 0);
        C.noState("none at first", () -> b.test(0));
        b.shards(0, 4, 0);
        C.due("contents 1 to 4", b.test(0), 3);
        b.shards(0, 2, 0);
        C.due("contents 1 and 2", b.test(0), 2);
        C.due("the third was not gone through", b.shard(0, 2), NONE);
        b.shards(0, 0, 9);
        C.noState("none again", () -> b.test(0));
        C.noPlace("target 1", () -> b.shards(1, 0, 0));
        C.noPlace("target -1 ahead of the shards", () -> b.shards(-1, 5, 0));
        C.noRange("shards -1", () -> b.shards(0, -1, 0));
        C.noRange("shards 5", () -> b.shards(0, 5, 0));
        C.noRange("luck -1", () -> b.shards(0, 0, -1));
        C.noRange("luck 10", () -> b.shards(0, 0, 10));
    }

    private static void targetError() {
        C.promise(26);
        Buildmill b = Mills.withFiles();
        Mills.one(b, Buildmill.JOIN, 0, 0);
        C.due("no error", b.targetError(0, 0), NONE);
        b.source(0, 8);
        Mills.of(b, Buildmill.JOIN, 0, 0);
        Mills.of(b, Buildmill.JOIN, 0, 1);
        C.due("MISSING", b.targetError(0, 0), Buildmill.MISSING);
        C.due("DEPENDS", b.targetError(2, 0), 20 + Buildmill.DEPENDS);
        C.due("DEPENDS below", b.targetError(2, 1), 10 + Buildmill.DEPENDS);
        C.due("the last cause", b.targetError(2, 2), Buildmill.MISSING);
        C.due("not so many", b.targetError(2, 3), NONE);
        C.due("by far not so many", b.targetError(2, HIGH), NONE);
        b.drop(0);
        b.target(0, Buildmill.JOIN, 0);
        for (int i = 0; i < 5; i++) b.glob(3, 255, false);
        C.due("40 inputs", b.targetError(3, 0), NONE);
        b.depend(3, 0);
        C.due("41 inputs", b.targetError(3, 0), 30 + Buildmill.TOO_MANY);
        b.drop(3);
        b.source(3, 0);
        C.due("41 inputs with a path", b.targetError(3, 0), 30 + Buildmill.TOO_MANY);
        b.drop(3);
        b.source(3, 8);
        C.due("MISSING ahead of TOO_MANY", b.targetError(3, 0), 30 + Buildmill.MISSING);

        Buildmill all = Mills.withFiles();
        all.target(1, Buildmill.JOIN, 0);
        all.numberFrom(0, 0, 0);
        all.uses(0, 0);
        all.source(0, 40);
        C.due("NO_PACKAGE first", all.targetError(0, 0), Buildmill.NO_PACKAGE);
        all.pack(1, true);
        C.due("then NO_RULE", all.targetError(0, 0), Buildmill.NO_RULE);
        all.state(0, Buildmill.SET, 0, 0, 0);
        C.due("then NO_TOOL", all.targetError(0, 0), Buildmill.NO_TOOL);
        all.toolchain(0, NONE, 0, 0);
        C.due("then CROSSES", all.targetError(0, 0), Buildmill.CROSSES);
        all.target(0, Buildmill.JOIN, 0);
        all.depend(1, 0);
        all.source(1, 47);
        C.due("the items in their order", all.targetError(1, 0), 10 + Buildmill.DEPENDS);
        C.due("and the cause", all.targetError(1, 1), Buildmill.CROSSES);
        all.transit(1, 3, 3);
        all.choose(1, 3, 3, 9);
        all.untool(0);
        all.toolchain(0, 3, 0, 0);
        C.due("the cause is so configured", all.targetError(1, 1), Buildmill.NO_TOOL);
        C.noPlace("target 2", () -> all.targetError(2, 0));
        C.noPlace("target -1", () -> all.targetError(-1, 0));
        C.noPlace("depth -1", () -> all.targetError(0, -1));
    }

    // ---- how it is built

    private static void workers() {
        C.promise(27);
        C.due("one worker, that is warm then", Mills.timeOf(Mills.withRuns(3, 4, false), 7), 8);
        Buildmill two = Mills.withRuns(3, 4, false);
        C.due("there was one", two.workers(0, 2), 1);
        C.due("two workers", Mills.timeOf(two, 7), 6);
        Buildmill four = Mills.withRuns(5, 5, false);
        C.due("one of another kind", four.workers(2, 4), 1);
        C.due("do not help", Mills.timeOf(four, 31), 5 + 4 * 3);
        for (int path = 0; path < 5; path++) four.write(path, path + 2);
        C.due("four", four.workers(0, 4), 1);
        C.due("one is warm, three are not", Mills.timeOf(four, 31), 6);
        C.due("there were four", four.workers(0, 4), 4);

        Buildmill gone = Mills.withRuns(2, 4, false);
        gone.workers(0, 2);
        gone.build(3, false, 0);
        gone.write(0, 5);
        gone.write(1, 5);
        C.due("both are warm", Mills.timeOf(gone, 3), 2);
        C.due("the highest number goes", gone.workers(0, 1), 2);
        C.due("and a new one comes", gone.workers(0, 2), 1);
        gone.write(0, 6);
        gone.write(1, 6);
        C.due("that is not warm", Mills.timeOf(gone, 3), 4);
        C.due("the first on the warm one", gone.became(0, 2), 2);
        C.noPlace("kind -1", () -> gone.workers(-1, 1));
        C.noPlace("kind 3 ahead of many", () -> gone.workers(3, 0));
        C.noRange("0", () -> gone.workers(0, 0));
        C.noRange("5", () -> gone.workers(0, 5));
        C.due("nothing changed", gone.workers(0, 2), 2);

        Buildmill versions = Mills.withRuns(2, 4, false);
        versions.toolchain(0, NONE, 0, 5);
        versions.uses(1, 0);
        versions.workers(0, 2);
        versions.build(3, false, 0);
        versions.write(1, 5);
        versions.build(2, false, 0);
        C.due("the warm one, not the lowest", versions.told(0), 2);
        versions.write(0, 5);
        versions.build(1, false, 0);
        C.due("the other one stayed warm", versions.told(0), 2);
        versions.workers(0, 1);
        versions.write(1, 6);
        versions.build(2, false, 0);
        C.due("warm for another version", versions.told(0), 4);
    }

    /** An INCLUDE in the directory 0, whose path points to the path 8 of another package. */
    private static Buildmill looking() {
        Buildmill b = new Buildmill();
        b.pack(1, true);
        b.write(0, 536);
        b.write(8, 3);
        Mills.one(b, Buildmill.INCLUDE, 0, 0);
        return b;
    }

    private static void sandbox() {
        C.promise(28);
        Buildmill b = looking();
        C.due("sees none", b.outputFromNothing(0), 536);
        b.build(1, false, 0);
        C.due("none was seen", b.found(0, 0), -2 - 8);
        C.due("was on", b.sandbox(false), true);
        C.due("sees all", b.outputFromNothing(0), 539);
        b.build(1, false, 0);
        C.due("is not up to date", b.told(1 + Buildmill.RAN), 1);
        C.due("found", b.found(0, 0), 8003);
        C.due("was off", b.sandbox(false), false);
        C.due("was off, still", b.sandbox(true), false);
        b.build(1, false, 0);
        C.due("the near cache knows it", b.told(1 + Buildmill.NEAR), 1);
        C.due("as it was", b.output(0), 536);
        b.pack(1, false);
        C.due("what belongs to the directory is seen", b.outputFromNothing(0), 539);
    }

    private static void far() {
        C.promise(29);
        Buildmill b = Mills.withRuns(1, 7, false);
        C.due("could be reached", b.far(false, 2), true);
        b.build(1, false, 0);
        C.due("nothing is put", b.entries(true), 0);
        C.due("but near", b.entries(false), 1);
        C.due("could not", b.far(true, 9), false);
        b.write(0, 7);
        b.build(1, false, 0);
        C.due("put", b.entries(true), 1);
        b.write(0, 8);
        b.build(1, false, 0);
        b.forget(false);
        b.write(0, 7);
        C.due("with the latency", Mills.timeOf(b, 1), 9);
        C.due("from far", b.became(0, 0), Buildmill.FROM_FAR);
        C.due("put near as well", b.entries(false), 1);
        b.forget(false);
        b.write(0, 8);
        b.far(true, 1);
        C.due("with another latency", Mills.timeOf(b, 1), 1);
        b.forget(false);
        b.write(0, 7);
        b.far(false, 1);
        b.build(1, false, 0);
        C.due("cannot be reached", b.became(0, 0), Buildmill.RAN);
        C.noRange("latency 0", () -> b.far(true, 0));
        C.noRange("latency 10", () -> b.far(true, 10));
        C.due("nothing changed", b.far(true, 1), false);
    }

    /** Two targets of which the second one was run far, with the content 111; target 2 is of the second. */
    private static Buildmill ranFar() {
        Buildmill b = Mills.withRuns(2, 10, true);
        Mills.of(b, Buildmill.JOIN, 0, 1);
        b.work(2, 0, 5, false);
        b.build(3, false, 0);
        return b;
    }

    private static void lose() {
        C.promise(30);
        Buildmill b = ranFar();
        C.due("run far", b.became(1, 0), Buildmill.RAN_FAR);
        C.due("they were far", b.lose(111), true);
        C.due("lost", b.lose(111), false);
        C.due("those run here are far, too", b.lose(101), true);
        C.due("no content of a file", b.lose(11), false);
        C.due("the entries stay", b.entries(true), 2);
        C.due("run again, with its own duration", Mills.timeOf(b, 4), 3 + 10);
        C.due("once", b.told(9), 1);
        C.due("nothing fetched", b.told(10), 0);
        b.write(3, 5);
        b.source(2, 3);
        C.due("now the bytes are here", Mills.timeOf(b, 4), 3);
        C.noRange("-1", () -> b.lose(-1));
        C.noRange("1000", () -> b.lose(1000));

        Buildmill fetching = ranFar();
        C.due("fetched without time", Mills.timeOf(fetching, 4), 3);
        C.due("one", fetching.told(10), 1);
        C.due("none again", fetching.told(9), 0);

        Buildmill cut = ranFar();
        cut.far(false, 2);
        C.due("not to be reached", Mills.timeOf(cut, 4), 13);
        C.due("again", cut.told(9), 1);

        Buildmill deep = Mills.withRuns(2, 10, true);
        Mills.of(deep, Buildmill.JOIN, 200, 1);
        deep.work(2, 0, 19, true);
        Mills.one(deep, Buildmill.JOIN, 500, 3);
        deep.work(3, 0, 20, false);
        Mills.of(deep, Buildmill.JOIN, 0, 2, 1);
        deep.work(4, 0, 7, false);
        deep.build(3, false, 0);
        deep.build(8 | 4, false, 0);
        C.due("the second was run far", deep.became(deep.actionOf(2), 0), Buildmill.RAN_FAR);
        deep.lose(111);
        deep.lose(311);
        C.due("all below is run again, once", Mills.timeOf(deep, 16), 4 + 10 + 19);
        C.due("two", deep.told(9), 2);

        Buildmill fromFar = ranFar();
        fromFar.write(1, 500);
        fromFar.build(2, false, 0);
        fromFar.write(1, 11);
        fromFar.forget(false);
        fromFar.build(2, false, 0);
        C.due("an entry from far", fromFar.became(1, 0), Buildmill.FROM_FAR);
        fromFar.lose(111);
        fromFar.build(4, false, 0);
        C.due("brings no bytes", fromFar.told(9), 1);
    }

    /** Target 0 keeps the worker busy, so that the others are run far. */
    private static Buildmill withBusyWorker() {
        Buildmill b = Mills.withFiles();
        Mills.one(b, Buildmill.JOIN, 100, 0);
        b.work(0, 0, 20, false);
        b.far(true, 1);
        return b;
    }

    private static void lostDeeply() {
        C.promise(30);
        Buildmill two = withBusyWorker();
        for (int first = 1; first < 5; first += 2) {
            Mills.one(two, Buildmill.JOIN, 100 * first, first);
            Mills.of(two, Buildmill.JOIN, 200 * first, first);
            two.work(first, 0, 2, true);
            two.work(first + 1, 0, 3, true);
        }
        two.build(31, false, 0);
        C.due("four were run far", two.told(1 + Buildmill.RAN_FAR), 4);
        Mills.of(two, Buildmill.JOIN, 7, 2, 4, 1);
        two.work(5, 0, 5, false);
        two.far(false, 1);
        C.due("both ways down", Mills.timeOf(two, 32), 3 + 2 + 3 + 2 + 3);
        C.due("four are run again", two.told(9), 4);

        Buildmill chain = withBusyWorker();
        Mills.one(chain, Buildmill.JOIN, 7, 1);
        chain.work(1, 0, 1, true);
        for (int target = 2; target < 15; target++) {
            Mills.of(chain, Buildmill.JOIN, 7, target - 1);
            chain.work(target, 0, 1, true);
        }
        chain.build(1 | 1 << 9, false, 0);
        chain.write(0, 500);
        chain.build(1 | 1 << 14, false, 0);
        Mills.of(chain, Buildmill.STRIP, 0, 14);
        chain.far(false, 1);
        C.due("all the way down", Mills.timeOf(chain, 1 << 15), 15);
        C.due("14 are run again", chain.told(9), 14);
        chain.write(0, 501);
        chain.source(15, 0);
        chain.work(15, 0, 3, false);
        C.due("and not once more", Mills.timeOf(chain, 1 << 15), 2);
    }

    private static void forget() {
        C.promise(31);
        Buildmill b = ranFar();
        C.due("near", b.forget(false), 2);
        C.due("none is left", b.forget(false), 0);
        C.due("far stays", b.entries(true), 2);
        C.due("far", b.forget(true), 2);
        C.due("none", b.forget(true), 0);
        C.due("what is kept stays", Mills.timeOf(b, 3), 0);
        C.due("up to date", b.told(1), 2);
        b.build(4, false, 0);
        C.due("bytes stay far", b.told(10), 1);
        b.write(1, 500);
        b.build(2, false, 0);
        b.forget(false);
        b.forget(true);
        b.write(1, 11);
        b.build(2, false, 0);
        C.due("no entry any more", b.told(1 + Buildmill.RAN) + b.told(1 + Buildmill.RAN_FAR), 1);
        C.due("bytes stay here", b.lose(600), true);
    }

    private static void entries() {
        C.promise(32);
        Buildmill b = Mills.withRuns(1, 1, false);
        for (int content = 0; content < 41; content++) {
            b.write(0, content);
            b.build(1, false, 0);
            if (content == 23) C.due("24 near", b.entries(false), 24);
            if (content == 24) C.due("no more than 24", b.entries(false), 24);
            if (content == 39) C.due("40 far", b.entries(true), 40);
        }
        C.due("no more than 40", b.entries(true), 40);
        C.due("no more than 24", b.entries(false), 24);
        b.write(0, 17);
        b.build(1, false, 0);
        C.due("the earliest that is left near", b.became(0, 0), Buildmill.NEAR);
        b.write(0, 16);
        b.build(1, false, 0);
        C.due("the next one went", b.became(0, 0), Buildmill.FROM_FAR);
        b.write(0, 17);
        b.build(1, false, 0);
        C.due("what was used stays", b.became(0, 0), Buildmill.NEAR);
        b.write(0, 18);
        b.build(1, false, 0);
        C.due("what was not used went", b.became(0, 0), Buildmill.FROM_FAR);
        b.write(0, 0);
        b.build(1, false, 0);
        C.due("the first went from far", b.became(0, 0), Buildmill.RAN);
        b.write(0, 1);
        b.build(1, false, 0);
        C.due("then the second", b.became(0, 0), Buildmill.RAN);

        Buildmill alike = Mills.withRuns(1, 1, false);
        alike.build(1, false, 0);
        alike.write(0, 2);
        alike.far(false, 2);
        alike.build(1, false, 0);
        alike.write(0, 1);
        alike.forget(false);
        alike.build(1, false, 0);
        alike.far(true, 2);
        alike.forget(false);
        alike.write(0, 2);
        alike.build(1, false, 0);
        C.due("two entries", alike.entries(true), 2);
        alike.target(0, Buildmill.JOIN, 101);
        alike.source(1, 0);
        alike.build(2, false, 0);
        C.due("another number is another entry", alike.entries(true), 3);
        alike.target(2, Buildmill.JOIN, 101);
        alike.pack(2, true);
        alike.write(16, 2);
        alike.source(2, 16);
        alike.build(4, false, 0);
        C.due("the same contents fit another action", alike.became(2, 0), Buildmill.NEAR);
        C.due("and come from it", alike.output(2), 103);
        alike.target(0, Buildmill.MOST, 101);
        alike.source(3, 0);
        alike.build(8, false, 0);
        C.due("another operation does not fit", alike.became(3, 0), Buildmill.RAN);

        Buildmill seen = new Buildmill();
        seen.write(0, 501);
        Mills.one(seen, Buildmill.INCLUDE, 0, 0);
        seen.write(21, 1);
        seen.build(1, false, 0);
        seen.write(21, 2);
        seen.build(1, false, 0);
        C.due("found otherwise", seen.became(0, 0), Buildmill.RAN);
        C.due("is another entry", seen.entries(false), 2);
        seen.write(21, 1);
        seen.build(1, false, 0);
        C.due("seen as then", seen.became(0, 0), Buildmill.NEAR);
        C.due("with its content", seen.output(0), 502);
    }

    // ---- builds

    private static void build() {
        C.promise(33);
        Buildmill b = Mills.withFiles();
        Mills.one(b, Buildmill.JOIN, 0, 0);
        Mills.one(b, Buildmill.JOIN, 0, 1);
        Mills.of(b, Buildmill.JOIN, 3, 0);
        b.work(0, 0, 2, false);
        b.work(1, 0, 5, false);
        b.work(2, 0, 10, false);
        C.due("both are done", b.build(6, false, 0), 2);
        C.due("the first action is that of target 1", b.actionOf(1), 0);
        C.due("then the input of the other one", b.actionOf(0), 1);
        C.due("then that", b.actionOf(2), 2);
        C.due("the greatest weight first", b.became(1, 1), 0);
        C.due("then the next", b.became(2, 1), 2);
        C.due("half of it", b.became(2, 2), 7);
        C.due("the least weight last", b.became(0, 1), 7);
        C.due("half of it, rounded up", b.became(0, 2), 10);
        C.due("done at once", b.build(7, false, 0), 3);
        C.due("no time", b.told(0), 0);
        C.due("all up to date", b.told(1), 3);
        b.write(1, 500);
        b.build(7, false, 0);
        C.due("only what has another input", b.told(1 + Buildmill.RAN), 1);
        b.write(1, 11);
        b.build(7, false, 0);
        C.due("near", b.told(1 + Buildmill.NEAR), 1);
        C.due("with no time", b.told(0), 0);
        b.write(0, 2);
        C.due("the one below", b.build(4, false, 0), 1);
        C.due("and the one above", b.told(1 + Buildmill.RAN), 2);
        C.noPlace("no targets", () -> b.build(0, false, 0));
        C.noPlace("a target that is not there", () -> b.build(8, false, 0));
        C.noPlace("and one that is", () -> b.build(9, true, 0));
        C.noPlace("below 0", () -> b.build(-1, true, 0));
        C.noPlace("LOW", () -> b.build(LOW, true, 0));
        C.noPlace("HIGH, ahead of the limit", () -> b.build(HIGH, true, -1));
        C.noRange("limit -1", () -> b.build(1, false, -1));
        C.noRange("limit 1000", () -> b.build(1, false, 1000));
        C.due("limit 999", b.build(1, false, 999), 1);
        C.noPlace("a new object has no targets", () -> new Buildmill().build(1, false, 0));
        overfull();
    }

    private static void overfull() {
        Buildmill b = Mills.withFiles();
        for (int target = 0; target < 16; target++) {
            b.target(0, Buildmill.JOIN, target);
            b.uses(target, 0);
        }
        b.shards(15, 1, 0);
        b.toolchain(0, NONE, 0, 0);
        for (int version = 16; version < 16 * 8; version += 16) {
            C.due("16 more", b.build((1 << 16) - 1, false, 0), 16);
            b.untool(0);
            b.toolchain(0, NONE, 0, version % 100);
        }
        C.due("112", b.actions(), 112);
        int time = b.told(0);
        C.noState("16 more would be too many", () -> b.build((1 << 16) - 1, false, 0));
        C.noState("9 more would be, too", () -> b.build((1 << 9) - 1, true, 0));
        C.due("nothing changed", b.actions(), 112);
        C.due("no action yet", b.actionOf(0), NONE);
        C.due("the last build is the one before", b.told(0), time);
        C.due("8 more are just enough", b.build((1 << 8) - 1, false, 0), 8);
        C.due("120", b.actions(), 120);
        C.noState("not a single one more", () -> b.build(1 << 15, false, 0));
        C.promise(44);
        C.noState("in a test, either", () -> b.test(15));
        C.promise(33);
        C.due("those that are there can be built", b.build((1 << 8) - 1, false, 0), 8);
    }

    private static void buildWithErrors() {
        C.promise(33);
        Buildmill b = Mills.withFiles();
        Mills.one(b, Buildmill.JOIN, 1, 0);
        Mills.one(b, Buildmill.JOIN, 2, 40);
        Mills.of(b, Buildmill.JOIN, 3, 0, 1);
        b.work(0, 0, 4, false);
        b.build(1, false, 0);
        C.due("an error", b.build(5, false, 0), NONE);
        C.due("no actions", b.actions(), 1);
        for (int what = 0; what < 12; what++) C.due("told " + what, b.told(what), 0);
        C.due("nothing was wanted", b.became(0, 0), NONE);
        C.due("nothing began", b.became(0, 1), NONE);
        C.due("nothing was critical", b.critical(0), NONE);
        b.write(0, 300);
        C.due("going on", b.build(7, true, 0), 1);
        C.due("those in error are left out", b.actions(), 1);
        C.due("and the other one is done", b.output(0), 301);
        C.due("only errors", b.build(6, true, 0), 0);
        C.due("take no time", b.told(0), 0);

        Buildmill f = Mills.withFiles();
        Mills.one(f, Buildmill.CHECK, 6, 0);
        Mills.one(f, Buildmill.JOIN, 2, 1);
        Mills.of(f, Buildmill.JOIN, 3, 0);
        Mills.of(f, Buildmill.JOIN, 4, 2, 1);
        f.work(0, 0, 2, false);
        f.work(1, 1, 3, false);
        C.due("a failure, and it goes on", f.build(15, true, 0), 1);
        C.due("the failing one", f.became(0, 0), Buildmill.FAILED);
        C.due("ended", f.became(0, 2), 2);
        C.due("the other one is done", f.became(1, 0), Buildmill.RAN);
        C.due("what is above does not begin", f.became(2, 0), Buildmill.SKIPPED);
        C.due("and above that", f.became(3, 0), Buildmill.SKIPPED);
        C.due("nor began", f.became(3, 1), NONE);
        C.due("until all ended", f.told(0), 3);
        f.write(1, 12);
        Mills.one(f, Buildmill.JOIN, 9, 2);
        f.work(4, 1, 1, false);
        C.due("a failure stops", f.build(31, false, 0), 1);
        C.due("what has begun ends", f.became(1, 0), Buildmill.RAN);
        C.due("what has not begun is skipped", f.became(4, 0), Buildmill.SKIPPED);
        C.due("it is failing anew", f.became(0, 0), Buildmill.FAILED);
        C.due("a failing action is not put", f.entries(true), 2);
        f.write(0, 2);
        C.due("mended", f.build(31, false, 0), 5);
        C.due("CHECK gives N", f.output(0), 6);
    }

    private static void buildInTime() {
        C.promise(33);
        Buildmill b = Mills.withFiles();
        for (int i = 0; i < 3; i++) Mills.one(b, Buildmill.JOIN, 100, i);
        b.work(0, 0, 1, false);
        b.work(1, 0, 1, false);
        b.work(2, 0, 9, false);
        b.build(7, false, 0);
        C.due("the greatest weight", b.became(2, 1), 0);
        C.due("of equal ones the lowest number", b.became(0, 1), 9);
        C.due("then the next", b.became(1, 1), 10);

        Buildmill found = new Buildmill();
        found.write(0, 500);
        found.write(20, 501);
        Mills.one(found, Buildmill.INCLUDE, 7, 0);
        found.build(1, false, 0);
        C.due("what is found counts", found.output(0), (7 + 500 + 501) % 1000);
        found.build(1, false, 0);
        C.due("up to date", found.told(1), 1);
        found.write(21, 0);
        found.build(1, false, 0);
        C.due("a file comes where none was seen", found.told(1 + Buildmill.RAN), 1);
        C.due("and counts", found.output(0), 8);
        found.write(21, 5);
        found.build(1, false, 0);
        C.due("an other content is seen", found.told(1 + Buildmill.RAN), 1);
        found.write(22, 5);
        found.build(1, false, 0);
        C.due("what was not looked at is not seen", found.told(1), 1);

        Buildmill operations = new Buildmill();
        for (int operation = 0; operation < 6; operation++) {
            operations.target(0, operation, 10);
            operations.uses(operation, 0);
            for (int path : new int[] {3, 1, 2}) operations.source(operation, path);
        }
        operations.toolchain(0, NONE, 0, 5);
        operations.write(1, 499);
        operations.write(2, 250);
        operations.write(3, 49);
        C.due("JOIN", operations.outputFromNothing(0), (15 + 49 + 2 * 499 + 3 * 250) % 1000);
        C.due("STRIP", operations.outputFromNothing(1), 15 + 4 + 49 + 25);
        C.due("MOST", operations.outputFromNothing(2), 514);
        C.due("TALLY", operations.outputFromNothing(3), 18);
        C.due("CHECK", operations.outputFromNothing(4), 15);
        C.due("INCLUDE", operations.outputFromNothing(5), 15 + 49 + 499 + 250);
        operations.write(2, 249);
        C.due("CHECK of 812", operations.outputFromNothing(4), NONE);
        operations.target(0, Buildmill.MOST, 3);
        C.due("MOST without inputs", operations.outputFromNothing(6), 3);
        operations.target(0, Buildmill.CHECK, 14);
        C.due("CHECK without inputs", operations.outputFromNothing(7), NONE);
        operations.target(0, Buildmill.CHECK, 999);
        operations.uses(8, 0);
        C.due("CHECK of 1004, modulo 1000", operations.outputFromNothing(8), 4);
        operations.untool(0);
        operations.toolchain(0, NONE, 0, 9);
        C.due("CHECK of 1008", operations.outputFromNothing(8), NONE);
    }

    private static void buildWithLimit() {
        C.promise(33);
        Buildmill b = Mills.withRuns(3, 4, false);
        b.workers(0, 2);
        Mills.of(b, Buildmill.JOIN, 0, 0);
        C.due("at the limit all that ends is done", b.build(15, false, 4), 2);
        C.due("first", b.became(0, 0), Buildmill.RAN);
        C.due("nothing begins at the limit", b.became(2, 0), Buildmill.SKIPPED);
        C.due("above, either", b.became(3, 0), Buildmill.SKIPPED);
        C.due("its time", b.told(0), 4);
        C.due("the third one is cancelled", b.build(4, false, 1), 0);
        C.due("CANCELLED", b.became(2, 0), Buildmill.CANCELLED);
        C.due("when it began", b.became(2, 1), 0);
        C.due("when it ended", b.became(2, 2), 1);
        C.due("nothing is kept", b.output(2), NONE);
        C.due("nothing is put", b.entries(false), 2);
        C.due("the worker is not warm", Mills.timeOf(b, 4), 2);
        b.write(2, 500);
        C.due("within a limit", b.build(4, false, 500), 1);
        C.due("it ends when nothing runs", b.told(0), 2);

        Buildmill cold = Mills.withRuns(1, 4, false);
        cold.build(1, false, 0);
        cold.write(0, 2);
        cold.build(1, false, 1);
        C.due("one worker, cancelled", cold.told(1 + Buildmill.CANCELLED), 1);
        C.due("is warm for none", Mills.timeOf(cold, 1), 4);
        cold.write(0, 3);
        cold.build(1, false, 0);
        cold.forget(false);
        cold.write(0, 2);
        cold.far(true, 5);
        cold.build(1, false, 4);
        C.due("a fetching is cancelled", cold.became(0, 0), Buildmill.CANCELLED);
        C.due("and not put near", cold.entries(false), 0);
        C.due("the last content", cold.actionOf(0) == 0 ? cold.output(0) : NONE, 103);
        cold.build(1, false, 5);
        C.due("the fetching ends at the limit", cold.became(0, 0), Buildmill.FROM_FAR);
    }

    private static void buildInBothWays() {
        C.promise(33);
        Buildmill b = Mills.withRuns(3, 10, true);
        C.due("all are done", b.build(7, false, 0), 3);
        C.due("here ends first", b.became(0, 0), Buildmill.RAN);
        C.due("at its time", b.became(0, 2), 10);
        C.due("far without a worker", b.became(1, 0), Buildmill.RAN_FAR);
        C.due("began at once", b.became(1, 1), 0);
        C.due("duration and latency", b.became(1, 2), 12);
        C.due("and another one", b.became(2, 2), 12);
        C.due("put far", b.entries(true), 3);
        b.far(false, 2);
        b.write(0, 500);
        b.write(1, 500);
        b.build(3, false, 0);
        C.due("not to be reached: here", b.told(1 + Buildmill.RAN), 1);
        C.due("the other one takes its entry", b.told(1 + Buildmill.NEAR), 1);

        Buildmill tie = Mills.withRuns(2, 2, true);
        Mills.of(tie, Buildmill.JOIN, 0, 1);
        tie.work(2, 0, 5, true);
        tie.far(true, 1);
        tie.build(3, false, 0);
        C.due("far", tie.became(1, 0), Buildmill.RAN_FAR);
        tie.lose(111);
        tie.build(4, false, 0);
        C.due("here is first, though bytes were missing", tie.became(2, 0), Buildmill.RAN);
        C.due("half of 5, and 2", tie.became(2, 2), 5);

        Buildmill lost = Mills.withRuns(2, 20, true);
        Mills.of(lost, Buildmill.JOIN, 0, 1);
        lost.work(2, 0, 5, true);
        lost.build(3, false, 0);
        lost.lose(111);
        lost.build(4, false, 0);
        C.due("far ends first", lost.became(2, 0), Buildmill.RAN_FAR);
        C.due("at its time", lost.became(2, 2), 7);
        C.due("its time", lost.told(0), 7);
        lost.write(0, 500);
        lost.work(0, 0, 9, false);
        C.due("the worker's run ended without anything", Mills.timeOf(lost, 1), 9);

        Buildmill same = Mills.withRuns(2, 4, true);
        Mills.of(same, Buildmill.JOIN, 0, 1);
        same.work(2, 0, 6, true);
        same.far(true, 1);
        same.build(3, false, 0);
        same.lose(111);
        same.build(4, false, 0);
        C.due("at the same time here counts", same.became(2, 0), Buildmill.RAN);
        C.due("3 and 4 are 6 and 1", same.became(2, 2), 7);
        same.write(0, 500);
        same.work(0, 0, 9, false);
        C.due("and the worker is warm", Mills.timeOf(same, 1), 5);
    }

    private static void told() {
        C.promise(34);
        Buildmill b = Mills.withFiles();
        Mills.one(b, Buildmill.CHECK, 6, 0);
        Mills.one(b, Buildmill.JOIN, 200, 1);
        Mills.of(b, Buildmill.JOIN, 0, 0);
        b.work(1, 1, 9, false);
        b.build(7, true, 5);
        int[] due = {5, 0, 0, 0, 0, 0, 1, 1, 1, 0, 0, 0};
        for (int what = 0; what < 12; what++) C.due("told " + what, b.told(what), due[what]);
        C.noRange("-1", () -> b.told(-1));
        C.noRange("12", () -> b.told(12));
        C.noRange("HIGH", () -> b.told(HIGH));

        Buildmill l = looking();
        l.build(1, false, 0);
        C.due("one looked at more", l.told(11), 1);
        C.due("and was not put far", l.entries(true), 0);
        C.due("but near", l.entries(false), 1);
        l.build(1, false, 0);
        C.due("no run, no looking", l.told(11), 0);
        l.erase(8);
        l.sandbox(false);
        l.write(1, 1);
        l.source(0, 1);
        l.build(1, false, 0);
        C.due("no file there, still more", l.told(11), 1);
        l.pack(1, false);
        l.forget(false);
        l.write(0, 537);
        l.build(1, false, 0);
        C.due("it belongs to the directory", l.told(11), 0);
        C.due("put far", l.entries(true), 1);
        l.build(1, false, 0);
        C.due("no action again", l.told(9), 0);

        Buildmill far = looking();
        Mills.one(far, Buildmill.JOIN, 0, 0);
        far.work(0, 0, 3, true);
        far.work(1, 0, 9, false);
        far.build(3, false, 0);
        C.due("run far, and looked at more", far.told(11), 1);
        C.due("it was far", far.became(0, 0), Buildmill.RAN_FAR);
        C.due("only the other one is put far", far.entries(true), 1);
    }

    private static void failedFirst() {
        C.promise(35);
        Buildmill b = Mills.withFiles();
        Mills.one(b, Buildmill.CHECK, 6, 0);
        Mills.one(b, Buildmill.CHECK, 3, 1);
        Mills.one(b, Buildmill.CHECK, 0, 2);
        b.work(0, 0, 5, false);
        b.work(1, 1, 3, false);
        b.work(2, 2, 3, false);
        b.build(7, true, 0);
        C.due("the first, of two the lowest", b.failedFirst(), 1);
        C.due("three failed", b.told(1 + Buildmill.FAILED), 3);
        b.build(1, false, 0);
        C.due("the only one", b.failedFirst(), 0);
        b.write(0, 2);
        b.build(1, false, 0);
        C.due("none", b.failedFirst(), NONE);
        b.build(2, false, 0);
        b.erase(0);
        b.build(1, false, 0);
        C.due("behind an error", b.failedFirst(), NONE);
    }

    private static void critical() {
        C.promise(36);
        Buildmill b = Mills.withFiles();
        Mills.one(b, Buildmill.JOIN, 0, 0);
        Mills.one(b, Buildmill.JOIN, 1, 1);
        Mills.of(b, Buildmill.JOIN, 2, 0, 1);
        Mills.one(b, Buildmill.JOIN, 3, 3);
        b.work(0, 0, 3, false);
        b.work(1, 1, 5, false);
        b.work(2, 0, 1, false);
        b.work(3, 2, 6, false);
        b.build(15, false, 0);
        C.due("the last, of two the lowest", b.critical(0), 2);
        C.due("the input that ended last", b.critical(1), 1);
        C.due("no more", b.critical(2), NONE);
        C.due("by far no more", b.critical(HIGH), NONE);
        b.build(15, false, 0);
        C.due("all at once: the lowest", b.critical(0), 0);
        b.write(3, 500);
        b.build(15, false, 0);
        C.due("the only one that ran", b.critical(0), 3);
        C.due("paths are none", b.critical(1), NONE);
        b.write(1, 12);
        b.write(0, 12);
        b.build(4, false, 3);
        C.due("what was done up to the limit", b.critical(0), 1);
        b.build(4, false, 2);
        C.due("all up to date below", b.told(1), 2);
        C.due("the one above ran", b.critical(0), 2);
        C.due("up to date counts", b.critical(1), 0);
        C.due("and has no more below it", b.critical(2), NONE);
        C.noPlace("-1", () -> b.critical(-1));

        Buildmill f = Mills.withFiles();
        Mills.one(f, Buildmill.CHECK, 6, 0);
        Mills.of(f, Buildmill.JOIN, 0, 0);
        f.build(2, true, 0);
        C.due("failed counts", f.critical(0), 0);
        C.due("skipped does not", f.critical(1), NONE);
    }

    private static void actions() {
        C.promise(37);
        Buildmill b = Mills.withFiles();
        Mills.one(b, Buildmill.JOIN, 0, 0);
        Mills.of(b, Buildmill.JOIN, 1, 0, 0);
        Mills.one(b, Buildmill.JOIN, 0, 0);
        C.due("not by asking", b.actionOf(1), NONE);
        b.outputFromNothing(1);
        C.due("none", b.actions(), 0);
        b.build(1, false, 0);
        C.due("one", b.actions(), 1);
        b.build(6, false, 0);
        C.due("two, for one is the same", b.actions(), 2);
        b.transit(1, 0, 1);
        b.build(2, false, 0);
        C.due("a configuration that changes nothing", b.actions(), 2);
        b.choose(0, 0, 1, 5);
        b.build(2, false, 0);
        C.due("two more", b.actions(), 4);
        b.transit(1, NONE, 0);
        b.build(2, false, 0);
        C.due("they stay", b.actions(), 4);
        b.write(0, 77);
        b.build(7, false, 0);
        C.due("contents do not matter", b.actions(), 4);
        b.pack(1, true);
        for (int target = 3; target < 5; target++) b.target(target - 3, Buildmill.INCLUDE, 9);
        for (int target = 5; target < 7; target++) b.target(target - 5, Buildmill.TALLY, 9);
        b.build(8 | 16, false, 0);
        C.due("INCLUDE by directories", b.actions(), 6);
        b.build(32 | 64, false, 0);
        C.due("others not", b.actions(), 7);
    }

    private static void actionOf() {
        C.promise(38);
        Buildmill b = Mills.withFiles();
        Mills.one(b, Buildmill.JOIN, 0, 0);
        Mills.of(b, Buildmill.JOIN, 1, 0);
        C.due("not yet", b.actionOf(0), NONE);
        b.build(2, false, 0);
        C.due("the input first", b.actionOf(0), 0);
        C.due("then it", b.actionOf(1), 1);
        b.choose(0, 3, 1, 50);
        b.setting(3, 1);
        C.due("configured otherwise", b.actionOf(1), NONE);
        b.build(1, false, 0);
        C.due("found", b.actionOf(0), 2);
        C.due("but not this", b.actionOf(1), NONE);
        b.setting(3, 0);
        C.due("as before", b.actionOf(1), 1);
        b.erase(0);
        C.due("in error", b.actionOf(1), NONE);
        b.write(0, 5);
        b.toolchain(0, NONE, 0, 3);
        b.uses(0, 0);
        C.due("another version", b.actionOf(0), NONE);
        b.uses(0, NONE);
        b.numberFrom(0, 2, 2);
        b.state(2, Buildmill.SET, 2, 0, 0);
        C.due("the number comes from a file", b.actionOf(0), 0);
        b.state(2, Buildmill.SET, 2, 50, 0);
        C.due("and is another one then", b.actionOf(0), 2);
        C.noPlace("2", () -> b.actionOf(2));
        C.noPlace("-1", () -> b.actionOf(-1));
    }

    private static void input() {
        C.promise(39);
        Buildmill b = Mills.withFiles();
        Mills.one(b, Buildmill.JOIN, 0, 7);
        Mills.one(b, Buildmill.JOIN, 0, 2);
        b.depend(1, 0);
        b.glob(1, 8 | 2, false);
        b.build(2, false, 0);
        C.due("a path", b.input(1, 0), 2);
        C.due("an action", b.input(1, 1), 100);
        C.due("of a glob", b.input(1, 2), 1);
        C.due("rising", b.input(1, 3), 3);
        C.due("not so many", b.input(1, 4), NONE);
        C.due("by far not so many", b.input(1, HIGH), NONE);
        C.due("of the other one", b.input(0, 0), 7);
        b.drop(1);
        C.due("it stays", b.input(1, 2), 1);
        C.noPlace("action 2", () -> b.input(2, 0));
        C.noPlace("action -1", () -> b.input(-1, 0));
        C.noPlace("input -1", () -> b.input(0, -1));
    }

    private static void became() {
        C.promise(40);
        Buildmill b = Mills.withRuns(2, 4, false);
        b.build(3, false, 0);
        C.due("RAN", b.became(1, 0), Buildmill.RAN);
        C.due("began", b.became(1, 1), 4);
        C.due("ended", b.became(1, 2), 6);
        b.build(2, false, 0);
        C.due("not wanted", b.became(0, 0), NONE);
        C.due("not wanted, began", b.became(0, 1), NONE);
        C.due("not wanted, ended", b.became(0, 2), NONE);
        C.due("UP_TO_DATE", b.became(1, 0), Buildmill.UP_TO_DATE);
        C.due("began at 0", b.became(1, 1), 0);
        C.due("ended at 0", b.became(1, 2), 0);
        b.write(0, 500);
        b.write(1, 500);
        b.build(3, false, 1);
        C.due("CANCELLED", b.became(0, 0), Buildmill.CANCELLED);
        C.due("ended at the limit", b.became(0, 2), 1);
        C.due("SKIPPED", b.became(1, 0), Buildmill.SKIPPED);
        C.due("did not begin", b.became(1, 1), NONE);
        C.due("did not end", b.became(1, 2), NONE);
        C.noPlace("action 2 ahead of what", () -> b.became(2, 3));
        C.noPlace("action -1", () -> b.became(-1, 0));
        C.noRange("what -1", () -> b.became(0, -1));
        C.noRange("what 3", () -> b.became(0, 3));
    }

    private static void found() {
        C.promise(41);
        Buildmill b = new Buildmill();
        b.write(0, 529);
        b.write(1, 600);
        b.write(24, 999);
        b.write(39, 500);
        b.target(0, Buildmill.INCLUDE, 0);
        b.source(0, 0);
        b.source(0, 1);
        b.source(0, 0);
        int sum = 529 + 600 + 529 + 600 + 999 + 500;
        C.due("the inputs, and what is found, once each", b.outputFromNothing(0), sum % 1000);
        b.build(1, false, 0);
        C.due("first", b.found(0, 0), 1600);
        C.due("behind it", b.found(0, 1), 24999);
        C.due("behind that", b.found(0, 2), 39500);
        C.due("no file there", b.found(0, 3), -2 - 20);
        C.due("nothing twice", b.found(0, 4), NONE);
        C.due("by far not so many", b.found(0, HIGH), NONE);
        b.write(39, 501);
        C.due("as it was then", b.found(0, 2), 39500);
        b.build(1, false, 1);
        C.due("as it is kept now", b.found(0, 2), 39501);
        C.due("and now", b.found(0, 3), -2 - 21);
        b.target(0, Buildmill.JOIN, 0);
        b.source(1, 0);
        b.work(1, 0, 2, false);
        b.build(2, false, 1);
        C.due("not kept", b.found(1, 0), NONE);
        Buildmill ring = new Buildmill();
        for (int path = 0; path < 48; path++) ring.write(path, 528 + (path + 1) % 48);
        Mills.one(ring, Buildmill.INCLUDE, 0, 0);
        ring.build(1, false, 0);
        for (int place = 0; place < 48; place++) {
            int path = (place + 1) % 48;
            C.due("all paths, place " + place, ring.found(0, place), 1000 * path + 528 + (path + 1) % 48);
        }
        C.due("none twice", ring.found(0, 48), NONE);
        C.noPlace("action 2", () -> b.found(2, 0));
        C.noPlace("action -1", () -> b.found(-1, 0));
        C.noPlace("place -1", () -> b.found(0, -1));
    }

    private static void output() {
        C.promise(42);
        Buildmill b = Mills.withFiles();
        Mills.one(b, Buildmill.JOIN, 100, 0);
        Mills.of(b, Buildmill.CHECK, 0, 0);
        C.due("never done", b.output(0), NONE);
        b.build(1, false, 0);
        C.due("done", b.output(0), 101);
        b.write(0, 5);
        C.due("as it was done last", b.output(0), 101);
        b.build(2, true, 0);
        C.due("a failure is not done", b.output(1), NONE);
        C.due("this is", b.output(0), 105);
        b.write(0, 6);
        b.build(2, true, 0);
        C.due("done, too", b.output(1), 0);
        b.write(0, 5);
        b.build(2, true, 0);
        C.due("failed anew, done last before", b.output(1), 0);
        b.choose(0, 0, 1, 7);
        b.setting(0, 1);
        C.due("configured by the settings", b.output(0), NONE);
        b.setting(0, 0);
        C.due("as before", b.output(0), 105);
        b.numberFrom(0, 2, 2);
        b.state(2, Buildmill.SET, 2, 0, 0);
        C.due("another number", b.output(0), NONE);
        b.state(2, Buildmill.SET, 2, 100, 0);
        C.due("the number as before", b.output(0), 105);
        b.erase(0);
        C.due("in error", b.output(0), NONE);
        C.noPlace("2", () -> b.output(2));
        C.noPlace("-1", () -> b.output(-1));
    }

    private static void outputFromNothing() {
        C.promise(43);
        Buildmill b = Mills.withFiles();
        Mills.one(b, Buildmill.JOIN, 100, 0);
        Mills.of(b, Buildmill.CHECK, 0, 0);
        Mills.of(b, Buildmill.TALLY, 0, 1, 0);
        C.due("without a build", b.outputFromNothing(0), 101);
        C.due("the check", b.outputFromNothing(1), 0);
        C.due("all", b.outputFromNothing(2), 2);
        b.write(0, 5);
        C.due("it fails", b.outputFromNothing(1), NONE);
        C.due("something below fails", b.outputFromNothing(2), NONE);
        C.due("this does not", b.outputFromNothing(0), 105);
        b.choose(0, 0, 1, 7);
        b.transit(2, 0, 1);
        C.due("configured by the transition", b.outputFromNothing(2), 2);
        b.erase(0);
        C.due("in error", b.outputFromNothing(2), NONE);
        C.noPlace("3", () -> b.outputFromNothing(3));
        C.noPlace("-1", () -> b.outputFromNothing(-1));
    }

    /** Ways beyond number: each target has the one before it six times. */
    private static void manyWays() {
        C.promise(33);
        Buildmill b = Mills.withFiles();
        Mills.one(b, Buildmill.JOIN, 0, 0);
        int content = 1;
        for (int target = 1; target < 16; target++) {
            Mills.of(b, Buildmill.JOIN, target, target - 1, target - 1, target - 1, target - 1, target - 1, target - 1);
            content = (target + 21 * content) % 1000;
        }
        C.due("from nothing", b.outputFromNothing(15), content);
        C.due("built", b.build(1 << 15, false, 0), 1);
        C.due("each once", b.actions(), 16);
        C.due("output", b.output(15), content);
        C.due("the shortest way", b.someWay(15, 0, 15), 0);
        for (int target = 1; target < 16; target++) b.transit(target, target % 4, target / 4 % 4);
        C.due("configured in many ways", b.outputFromNothing(15), content);
        b.erase(0);
        C.due("all causes", b.targetError(15, 15), Buildmill.MISSING);
        C.due("and no more", b.targetError(15, 16), NONE);
    }

    // ---- tests

    private static void test() {
        C.promise(44);
        Buildmill b = Mills.withFiles();
        Mills.one(b, Buildmill.JOIN, 0, 0);
        b.work(0, 0, 6, false);
        b.shards(0, 4, 0);
        C.due("contents 1 to 4, of which 3 is not sound", b.test(0), 3);
        C.due("it was built", b.told(0), 6);
        C.due("and run", b.became(0, 0), Buildmill.RAN);
        b.write(0, 3);
        C.due("contents 3 to 6", b.test(0), 3);
        C.due("not sound", b.shard(0, 0), Buildmill.BROKEN);
        b.shards(0, 1, 0);
        C.due("none passed", b.test(0), 0);
        Mills.one(b, Buildmill.CHECK, 4, 0);
        b.shards(1, 4, 0);
        C.due("it fails", b.test(1), NONE);
        C.due("failed", b.failedFirst(), 1);
        b.erase(0);
        C.due("in error", b.test(0), NONE);
        C.due("what became of it stays", b.shard(0, 0), Buildmill.BROKEN);
        C.due("alone", b.told(1), 0);
        Mills.one(b, Buildmill.JOIN, 0, 1);
        C.noState("no shards", () -> b.test(2));
        C.noPlace("3", () -> b.test(3));
        C.noPlace("-1", () -> b.test(-1));

        Buildmill luck = Mills.withFiles();
        Mills.one(luck, Buildmill.JOIN, 0, 0);
        luck.shards(0, 3, 5);
        luck.write(0, 4);
        C.due("two of three passed at once", luck.test(0), 2);
        C.due("8", luck.shard(0, 0), Buildmill.PASSED);
        C.due("8", luck.shard(0, 1), Buildmill.PASSED);
        C.due("3, 5", luck.shard(0, 2), Buildmill.FLAKY);
        C.due("1, 7; 0, 9; 2, 6", luck.test(0), 0);
        C.due("all are flaky", luck.shard(0, 2), Buildmill.FLAKY);
    }

    private static void shard() {
        C.promise(45);
        Buildmill b = Mills.withFiles();
        Mills.one(b, Buildmill.JOIN, 0, 0);
        b.shards(0, 3, 0);
        for (int k = 0; k < 4; k++) C.due("no test yet", b.shard(0, k), NONE);
        b.test(0);
        int[] due = {Buildmill.PASSED, Buildmill.PASSED, Buildmill.BROKEN, NONE};
        for (int k = 0; k < 4; k++) C.due("shard " + k, b.shard(0, k), due[k]);
        b.shards(0, 1, 0);
        for (int k = 0; k < 4; k++) C.due("until the next test, shard " + k, b.shard(0, k), due[k]);
        b.erase(0);
        b.test(0);
        C.due("a test that is not done changes nothing", b.shard(0, 2), Buildmill.BROKEN);
        b.write(0, 3);
        b.test(0);
        int[] then = {Buildmill.BROKEN, NONE, NONE, NONE};
        for (int k = 0; k < 4; k++) C.due("then shard " + k, b.shard(0, k), then[k]);
        C.noPlace("target 1", () -> b.shard(1, 0));
        C.noPlace("target -1", () -> b.shard(-1, 0));
        C.noPlace("shard -1", () -> b.shard(0, -1));
        C.noPlace("shard 4", () -> b.shard(0, 4));
    }

    private static void tries() {
        C.promise(46);
        Buildmill b = Mills.withFiles();
        Mills.one(b, Buildmill.JOIN, 0, 0);
        Mills.one(b, Buildmill.JOIN, 0, 0);
        b.shards(0, 3, 0);
        b.shards(1, 3, 0);
        b.test(0);
        C.due("each once", b.tries(), 3);
        b.test(0);
        C.due("not again", b.tries(), 0);
        C.due("but they have their fates", b.shard(0, 2), Buildmill.BROKEN);
        b.shards(0, 4, 0);
        b.test(0);
        C.due("the new one", b.tries(), 1);
        b.write(0, 2);
        b.test(0);
        C.due("another content", b.tries(), 4);
        b.write(0, 1);
        b.test(0);
        C.due("kept for the first content", b.tries(), 0);
        b.test(1);
        C.due("another target with the same action", b.tries(), 3);
        b.shards(0, 3, 5);
        b.test(0);
        C.due("8; 8; 3, 5, 1, for 3 is not sound", b.tries(), 5);
        b.test(0);
        C.due("7; 0, 9; 2, 6, 8: nothing is kept", b.tries(), 6);
        b.shards(0, 4, 0);
        b.test(0);
        C.due("still kept", b.tries(), 0);
        b.test(1);
        b.shards(1, 3, 9);
        b.test(1);
        C.due("at most three tries each", b.tries() <= 9, true);
        b.erase(0);
        b.test(1);
        C.due("none in error", b.tries(), 0);
        b.shards(1, 0, 0);
        b.write(0, 9);
        b.test(0);
        C.due("four", b.tries(), 4);
        C.noState("no shards", () -> b.test(1));
        C.due("a call that throws changes nothing", b.tries(), 4);
        b.write(0, 999);
        b.test(0);
        C.due("the greatest content", b.tries(), 4);
        b.test(0);
        C.due("is kept, too", b.tries(), 0);
    }

    private static void seed() {
        C.promise(47);
        Buildmill b = Mills.withFiles();
        Mills.one(b, Buildmill.JOIN, 0, 0);
        b.write(0, 4);
        int[] draws = {8, 8, 3, 5, 1, 7, 0, 9, 2, 6};
        for (int luck = 1; luck < 10; luck++) {
            b.seed(1);
            b.shards(0, 1, luck);
            b.test(0);
            int tries = 1;
            while (tries < 4 && draws[tries - 1] < luck) tries++;
            C.due("tries with the luck " + luck, b.tries(), Math.min(tries, 3));
            C.due("fate with the luck " + luck, b.shard(0, 0), tries == 1 ? Buildmill.PASSED : tries < 4 ? Buildmill.FLAKY : Buildmill.BROKEN);
        }
        b.seed(HIGH);
        b.shards(0, 4, 6);
        long state = HIGH;
        int due = 0;
        for (int k = 0; k < 3; k++) {
            for (int attempt = 0; attempt < 3; attempt++) {
                due++;
                state = (state * 1103515245L + 12345L) % 2147483648L;
                if (state / 65536 % 10 >= 6) break;
            }
        }
        b.test(0);
        C.due("from the greatest seed", b.tries(), due + 3);
        b.seed(0);
        b.shards(0, 1, 1);
        b.test(0);
        C.due("12345 is a draw of 0, then comes 0 of 21468", b.shard(0, 0), fateFromZero());
        C.noRange("-1", () -> b.seed(-1));
        C.noRange("LOW", () -> b.seed(LOW));
    }

    private static int fateFromZero() {
        long state = 0;
        for (int attempt = 0; attempt < 3; attempt++) {
            state = (state * 1103515245L + 12345L) % 2147483648L;
            if (state / 65536 % 10 >= 1) return attempt == 0 ? Buildmill.PASSED : Buildmill.FLAKY;
        }
        return Buildmill.BROKEN;
    }

    // ---- queries

    /** 5 is of 4 and 3, 4 of 2, 3 of 2 and 1, 2 of 0, 1 of 0; 6 is alone. */
    private static Buildmill graph() {
        Buildmill b = new Buildmill();
        Mills.of(b, Buildmill.JOIN, 0);
        Mills.of(b, Buildmill.JOIN, 0, 0);
        Mills.of(b, Buildmill.JOIN, 0, 0);
        Mills.of(b, Buildmill.JOIN, 0, 2, 1);
        Mills.of(b, Buildmill.JOIN, 0, 2);
        Mills.of(b, Buildmill.JOIN, 0, 4, 3);
        Mills.of(b, Buildmill.JOIN, 0);
        return b;
    }

    private static void someWay() {
        C.promise(48);
        Buildmill b = graph();
        int[] due = {5, 3, 1, 0, NONE};
        for (int place = 0; place < due.length; place++) C.due("5 to 0 at " + place, b.someWay(5, 0, place), due[place]);
        C.due("by far not so many", b.someWay(5, 0, HIGH), NONE);
        C.due("itself", b.someWay(3, 3, 0), 3);
        C.due("and no more", b.someWay(3, 3, 1), NONE);
        C.due("no way", b.someWay(6, 0, 0), NONE);
        C.due("no way up", b.someWay(0, 5, 0), NONE);
        C.due("5 to 2 by 3", b.someWay(5, 2, 1), 3);
        b.depend(5, 2);
        C.due("a shorter way", b.someWay(5, 0, 1), 2);
        C.due("and its end", b.someWay(5, 0, 2), 0);
        C.noPlace("target 7", () -> b.someWay(7, 0, 0));
        C.noPlace("target -1", () -> b.someWay(-1, 0, 0));
        C.noPlace("other 7", () -> b.someWay(0, 7, 0));
        C.noPlace("other -1", () -> b.someWay(0, -1, 0));
        C.noPlace("place -1", () -> b.someWay(0, 0, -1));
    }

    private static void allWays() {
        C.promise(49);
        Buildmill b = graph();
        C.due("5 to 0", b.allWays(5, 0), 63);
        C.due("5 to 1", b.allWays(5, 1), 32 + 8 + 2);
        C.due("5 to 2", b.allWays(5, 2), 32 + 16 + 8 + 4);
        C.due("4 to 0", b.allWays(4, 0), 16 + 4 + 1);
        C.due("itself", b.allWays(6, 6), 64);
        C.due("no way", b.allWays(6, 0), 0);
        C.due("no way up", b.allWays(0, 5), 0);
        C.noPlace("target 7", () -> b.allWays(7, 0));
        C.noPlace("target -1", () -> b.allWays(-1, 0));
        C.noPlace("other 7", () -> b.allWays(0, 7));
        C.noPlace("other -1", () -> b.allWays(0, -1));
    }

    private static void above() {
        C.promise(50);
        Buildmill b = graph();
        C.due("0", b.above(0), 63);
        C.due("1", b.above(1), 2 + 8 + 32);
        C.due("2", b.above(2), 4 + 8 + 16 + 32);
        C.due("5", b.above(5), 32);
        C.due("6", b.above(6), 64);
        b.drop(3);
        C.due("1 behind a drop", b.above(1), 2);
        for (int target = 7; target < 16; target++) b.target(0, 0, 0);
        b.depend(15, 6);
        C.due("the last one", b.above(6), 64 + (1 << 15));
        C.noPlace("16", () -> b.above(16));
        C.noPlace("-1", () -> b.above(-1));
    }
}
