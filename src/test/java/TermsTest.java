/**
 * The boundary cases in the document's terms, sentence by sentence: files and packages, rule files,
 * settings and toolchains, targets and their actions, operations. Answers are worked out by hand.
 */
public final class TermsTest {
    private static final int NONE = Buildmill.NONE;
    private static final int SET = Buildmill.SET;
    private static final int LOAD = Buildmill.LOAD;
    private static final int ADD = Buildmill.ADD;
    private static final int LIST = Buildmill.LIST;
    private static final int PUSH = Buildmill.PUSH;
    private static final int SHARE = Buildmill.SHARE;
    private static final int WHEN = Buildmill.WHEN;
    private static final Check C = new Check();

    public static void main(String[] args) {
        directories();
        paths();
        contents();
        packages();
        globs();
        rows();
        evaluating();
        numbersSetAndAdded();
        lists();
        loading();
        leavingOut();
        failingFirst();
        reasons();
        cycles();
        anew();
        settings();
        toolchains();
        resolving();
        manyTargets();
        items();
        conditions();
        transitions();
        errors();
        tooMany();
        oneAndTheSame();
        numbering();
        manyActions();
        moduloThousand();
        joinAndStrip();
        mostAndTally();
        check();
        pointing();
        lookingOnce();
        sandboxed();
        lookingAtMore();
        C.end();
    }

    // ---- files, packages

    private static void directories() {
        C.sentence("There are the directories 0 to 5: 1 and 2 lie in 0, 3 and 4 in 1, 5 in 2.");
        int[] liesIn = {NONE, 0, 0, 1, 1, 2};
        for (int directory = 1; directory < 6; directory++) {
            Buildmill b = new Buildmill();
            for (int other = 0; other < 6; other++) if (other != directory && other > 0) b.pack(other, true);
            C.due("all but " + directory, b.packageOf(8 * directory), liesIn[directory]);
        }
        C.sentence("A directory belongs to itself, if it is a package, otherwise to that to which the directory belongs in which it lies; a path belongs to that to which its directory belongs.");
        for (int set = 0; set < 32; set++) {
            Buildmill b = new Buildmill();
            for (int directory = 1; directory < 6; directory++) b.pack(directory, (set >> directory - 1 & 1) == 1);
            for (int directory = 0; directory < 6; directory++) {
                int due = directory;
                while (due > 0 && (set >> due - 1 & 1) == 0) due = liesIn[due];
                C.due("the first path of " + directory, b.packageOf(8 * directory), due);
                C.due("the last path of " + directory, b.packageOf(8 * directory + 7), due);
            }
        }
    }

    private static void paths() {
        C.sentence("There are 48 paths; the path p lies in the directory p / 8 (rounded down), and has the name p modulo 8.");
        Buildmill b = Mills.full(0);
        for (int directory = 1; directory < 6; directory++) b.pack(directory, true);
        for (int path = 0; path < 48; path++) C.due("path " + path, b.globbed(path / 8, 1 << path % 8, false), 1L << path);
        C.noPlace("path 48", () -> b.erase(48));
        C.noPlace("path -1", () -> b.erase(-1));
    }

    private static void contents() {
        C.sentence("At a path there is a file with a content, 0 to 999, or none; at first there is none anywhere.");
        Buildmill b = new Buildmill();
        for (int path = 0; path < 48; path++) {
            C.due("none at first", b.erase(path), NONE);
            C.due("still none", b.write(path, 0), NONE);
            C.due("0 is a content", b.write(path, 999), 0);
            C.due("and 999", b.erase(path), 999);
            C.due("none again", b.erase(path), NONE);
        }
        C.noRange("1000", () -> b.write(0, 1000));
        C.noRange("-1", () -> b.write(0, -1));
        C.due("and nothing came", b.erase(0), NONE);
    }

    private static void packages() {
        C.sentence("A directory is a package or not; 0 is always one, the others are none at first.");
        Buildmill b = new Buildmill();
        C.due("0 is one", b.globbed(0, 255, false), 0);
        C.noState("and stays one", () -> b.pack(0, false));
        C.noState("and is not made one", () -> b.pack(0, true));
        C.due("0 is one still", b.globbed(0, 255, true), 0);
        for (int directory = 1; directory < 6; directory++) {
            int other = directory;
            C.noState("none at first", () -> b.globbed(other, 255, false));
            C.due("was none", b.pack(directory, true), false);
            C.due("is one", b.pack(directory, true), true);
            C.due("was one", b.pack(directory, false), true);
            C.due("is none", b.pack(directory, false), false);
        }
    }

    private static void globs() {
        C.sentence("It finds the paths, by rising numbers, at which there is a file, whose name is in the set, and whose directory is the package, or, if the glob is deep, belongs to the package.");
        Buildmill b = Mills.full(0);
        C.due("all", b.globbed(0, 255, true), (1L << 48) - 1);
        C.due("not deep", b.globbed(0, 255, false), 255);
        C.due("without names", b.globbed(0, 0, true), 0);
        C.due("the first name", b.globbed(0, 1, true), 0x010101010101L);
        C.due("the last name", b.globbed(0, 128, true), 0x808080808080L);
        b.pack(1, true);
        C.due("without what belongs to 1", b.globbed(0, 255, true), 0xff0000ff00ffL);
        C.due("what belongs to 1", b.globbed(1, 255, true), 0x00ffff00ff00L);
        C.due("what lies in 1", b.globbed(1, 255, false), 0xff00L);
        b.pack(4, true);
        C.due("without what belongs to 4", b.globbed(1, 255, true), 0x0000ff00ff00L);
        C.due("what lies in 4", b.globbed(4, 255, true), 0x00ff00000000L);
        b.pack(5, true);
        C.due("not the package within no package", b.globbed(0, 255, true), 0x000000ff00ffL);
        for (int path = 0; path < 48; path++) b.erase(path);
        C.due("no files", b.globbed(0, 255, true), 0);

        Buildmill rising = new Buildmill();
        rising.write(47, 1);
        rising.write(9, 3);
        rising.write(0, 2);
        rising.target(0, Buildmill.JOIN, 0);
        rising.glob(0, 131, true);
        C.due("rising, however they were written", rising.outputFromNothing(0), 2 + 2 * 3 + 3 * 1);
        for (int directory = 1; directory < 6; directory++) {
            Buildmill inner = Mills.full(1);
            inner.pack(directory, true);
            for (int deep = 0; deep < 2; deep++) {
                inner.target(directory, Buildmill.TALLY, 0);
                inner.glob(deep, 255, deep == 1);
            }
            C.due("of a target in " + directory, inner.outputFromNothing(0), 8);
            C.due("deep, of a target in " + directory, inner.outputFromNothing(1), directory == 1 ? 24 : directory == 2 ? 16 : 8);
        }
        C.noRange("names 256", () -> rising.globbed(0, 256, true));
        C.noRange("names -1", () -> rising.globbed(0, -1, true));
    }

    // ---- rule files

    private static void rows() {
        C.sentence("There are the rule files 0 to 5, each a row of at most 12 statements, and the names 0 to 7 in each.");
        Buildmill b = new Buildmill();
        for (int file = 0; file < 6; file++) {
            int last = file;
            for (int place = 0; place < 12; place++) C.due("statements", b.state(file, SET, place % 8, 10 * file + place, 0), place + 1);
            C.noState("a 13th", () -> b.state(last, SET, 0, 0, 0));
            for (int name = 0; name < 8; name++) C.due("a name", b.value(file, name), 10 * file + (name < 4 ? name + 8 : name));
            C.due("the 12th goes", b.unstate(file, 11), 11);
            C.due("and does not count", b.value(file, 3), 10 * file + 3);
            for (int left = 10; left >= 0; left--) C.due("left", b.unstate(file, 0), left);
            C.noPlace("none to take", () -> b.unstate(last, 0));
            C.due("nothing", b.value(file, 7), NONE);
        }
        C.noPlace("file 6", () -> b.state(6, SET, 0, 0, 0));
        C.noPlace("name 8", () -> b.state(0, SET, 8, 0, 0));
    }

    private static void evaluating() {
        C.sentence("To evaluate a file is to go through its statements from the first one on, at first all names having nothing");
        Buildmill b = new Buildmill();
        C.due("no statements", b.ruleFailure(0, 0), NONE);
        b.state(0, SET, 0, 1, 0);
        b.state(0, ADD, 0, 0, 0);
        b.state(0, LIST, 1, 0, 0);
        b.state(0, PUSH, 1, 0, 0);
        for (int i = 0; i < 3; i++) {
            C.due("not twice", b.value(0, 0), 2);
            C.due("one number", b.listAt(0, 1, 0), 2);
            C.due("no other", b.listAt(0, 1, 1), NONE);
            C.due("another file between", b.value(1, 0), NONE);
        }
        b.state(1, ADD, 0, 0, 0);
        b.state(1, SET, 0, 1, 0);
        C.due("what comes later does not help", b.ruleFailure(1, 0), 1000 + Buildmill.UNSET);
        b.state(1, ADD, 0, 0, 0);
        b.unstate(1, 0);
        C.due("moved up", b.value(1, 0), 2);
        b.state(4, SET, 6, 40, 0);
        b.state(5, SET, 6, 50, 0);
        b.state(3, SET, 0, 1, 0);
        b.state(3, LOAD, 1, 6, 4);
        b.state(3, LOAD, 2, 6, 5);
        b.unstate(3, 0);
        C.due("moved up with its file", b.value(3, 1), 40);
        C.due("and the last one", b.value(3, 2), 50);
    }

    private static void numbersSetAndAdded() {
        C.sentence("SET n m: n has the number m. (m is 0 to 999.)");
        Buildmill b = new Buildmill();
        b.state(0, SET, 0, 0, 0);
        C.due("0 is a number", b.value(0, 0), 0);
        b.state(0, SET, 7, 999, 0);
        C.due("999", b.value(0, 7), 999);
        C.noRange("1000", () -> b.state(0, SET, 0, 1000, 0));
        C.noRange("-1", () -> b.state(0, SET, 0, -1, 0));
        b.state(0, LIST, 0, 0, 0);
        b.state(0, SET, 0, 5, 0);
        C.due("in place of a list", b.value(0, 0), 5);

        C.sentence("ADD n m: the number of m is added to that of n, modulo 1000.");
        int[] pairs = {0, 0, 500, 499, 999, 0, 500, 500, 999, 1, 1, 999, 999, 999};
        int[] due = {0, 999, 999, 0, 0, 0, 998};
        for (int i = 0; i < due.length; i++) {
            Buildmill a = new Buildmill();
            a.state(0, SET, 0, pairs[2 * i], 0);
            a.state(0, SET, 1, pairs[2 * i + 1], 0);
            a.state(0, ADD, 0, 1, 0);
            C.due(pairs[2 * i] + " and " + pairs[2 * i + 1], a.value(0, 0), due[i]);
            C.due("m stays", a.value(0, 1), pairs[2 * i + 1]);
        }
    }

    private static void lists() {
        C.sentence("A name has nothing, a number (0 to 999) or a list of at most 8 numbers.");
        Buildmill b = new Buildmill();
        b.state(2, SET, 0, 999, 0);
        b.state(2, LIST, 1, 0, 0);
        C.due("nothing", b.value(2, 7), NONE);
        C.due("a number", b.value(2, 0), 999);
        C.due("an empty list", b.value(2, 1), Buildmill.IS_LIST);
        C.due("has no first number", b.listAt(2, 1, 0), NONE);
        for (int i = 0; i < 8; i++) b.state(2, PUSH, 1, 0, 0);
        C.due("the 8th number", b.listAt(2, 1, 7), 999);
        C.due("and no 9th", b.listAt(2, 1, 8), NONE);
        C.due("8 are not too many", b.ruleFailure(2, 0), NONE);

        C.sentence("FULL: PUSH of a list with 8 numbers.");
        b.state(2, SHARE, 2, 1, 0);
        b.state(2, PUSH, 2, 0, 0);
        C.due("by another name, too", b.ruleFailure(2, 0), 2110 + Buildmill.FULL);
        b.unstate(2, 2);
        C.due("one fewer", b.ruleFailure(2, 0), NONE);
        C.due("8 again", b.listAt(2, 1, 7), 999);

        C.sentence("PUSH n m: the number of m comes behind the list of n.");
        Buildmill pushed = new Buildmill();
        pushed.state(4, LIST, 7, 0, 0);
        for (int i = 0; i < 5; i++) {
            pushed.state(4, SET, 0, i == 4 ? 999 : i, 0);
            pushed.state(4, PUSH, 7, 0, 0);
        }
        for (int i = 0; i < 5; i++) C.due("place " + i, pushed.listAt(4, 7, i), i == 4 ? 999 : i);
        C.due("no more", pushed.listAt(4, 7, 5), NONE);
        C.due("m stays", pushed.value(4, 0), 999);

        C.sentence("LIST n: n has a new list without numbers.");
        Buildmill fresh = new Buildmill();
        fresh.state(0, SET, 0, 7, 0);
        fresh.state(0, LIST, 1, 0, 0);
        fresh.state(0, PUSH, 1, 0, 0);
        fresh.state(0, SHARE, 2, 1, 0);
        fresh.state(0, LIST, 1, 0, 0);
        C.due("without numbers", fresh.listAt(0, 1, 0), NONE);
        C.due("the one before stays", fresh.listAt(0, 2, 0), 7);
        fresh.state(0, PUSH, 1, 0, 0);
        fresh.state(0, PUSH, 1, 0, 0);
        C.due("they are two", fresh.listAt(0, 2, 1), NONE);

        C.sentence("SHARE n m: n has what m has; the same list, if it is one.");
        Buildmill s = new Buildmill();
        s.state(0, SET, 0, 7, 0);
        s.state(0, SHARE, 1, 0, 0);
        s.state(0, ADD, 1, 1, 0);
        C.due("a number is not shared", s.value(0, 0), 7);
        C.due("it was had", s.value(0, 1), 14);
        s.state(0, LIST, 2, 0, 0);
        s.state(0, SHARE, 2, 2, 0);
        s.state(0, SHARE, 3, 2, 0);
        s.state(0, PUSH, 3, 0, 0);
        s.state(0, PUSH, 2, 1, 0);
        C.due("pushed by the other name", s.listAt(0, 2, 0), 7);
        C.due("and by its own", s.listAt(0, 3, 1), 14);
    }

    private static void loading() {
        C.sentence("LOAD n m f: n has what the name m of the rule file f has, when that has been evaluated; the same list, if it is one.");
        Buildmill b = new Buildmill();
        b.state(5, SET, 7, 3, 0);
        b.state(5, LIST, 6, 0, 0);
        b.state(5, PUSH, 6, 7, 0);
        b.state(5, SET, 7, 4, 0);
        b.state(0, LOAD, 0, 7, 5);
        b.state(0, LOAD, 1, 6, 5);
        C.due("what it has at the end", b.value(0, 0), 4);
        C.due("a list", b.listAt(0, 1, 0), 3);
        C.due("no other name", b.value(0, 7), NONE);

        C.sentence("A file that has been evaluated is done; its lists are FROZEN then.");
        Buildmill own = new Buildmill();
        own.state(1, LIST, 0, 0, 0);
        own.state(1, SET, 1, 9, 0);
        own.state(0, LIST, 2, 0, 0);
        own.state(0, LOAD, 0, 0, 1);
        own.state(0, LOAD, 1, 1, 1);
        own.state(0, PUSH, 2, 1, 0);
        C.due("its own list is not, though another file is done", own.listAt(0, 2, 0), 9);
        own.state(0, PUSH, 0, 1, 0);
        C.due("the list of that file is, though it is empty", own.ruleFailure(0, 0), 40 + Buildmill.FROZEN);
        own.state(1, PUSH, 0, 1, 0);
        C.due("asked by itself it is not done yet", own.listAt(1, 0, 0), 9);

        C.sentence("FROZEN: PUSH of a list that was made in another file.");
        b.state(0, SHARE, 2, 1, 0);
        b.state(0, PUSH, 2, 0, 0);
        C.due("by another name", b.ruleFailure(0, 0), 30 + Buildmill.FROZEN);
        b.unstate(0, 2);
        b.unstate(0, 2);
        b.state(0, LIST, 1, 0, 0);
        b.state(0, PUSH, 1, 0, 0);
        C.due("its own list in its place", b.listAt(0, 1, 0), 4);
        C.due("not so the loaded one", b.listAt(5, 6, 0), 3);
        b.state(1, LOAD, 0, 1, 0);
        b.state(1, LOAD, 1, 6, 5);
        b.state(1, LOAD, 2, 0, 0);
        b.state(1, PUSH, 0, 2, 0);
        C.due("frozen on the way up", b.ruleFailure(1, 0), 1030 + Buildmill.FROZEN);
        C.due("it is the failing file's own", b.ruleFailure(1, 1), NONE);
    }

    private static void leavingOut() {
        C.sentence("WHEN n: if the number of n is 0, the next statement is left out (be that a WHEN, too).");
        for (int number : new int[] {0, 1, 999}) {
            Buildmill b = new Buildmill();
            b.state(0, SET, 0, number, 0);
            b.state(0, WHEN, 0, 0, 0);
            b.state(0, SET, 1, 5, 0);
            b.state(0, SET, 2, 6, 0);
            C.due("the next one with " + number, b.value(0, 1), number == 0 ? NONE : 5);
            C.due("the one behind it with " + number, b.value(0, 2), 6);
        }
        int[][] zeros = {{SET, 1, 0, 0}, {ADD, 0, 0, 0}, {SHARE, 1, 0, 0}, {LOAD, 1, 0, 5}, {PUSH, 7, 0, 0}, {LIST, 6, 0, 0}};
        for (int[] row : zeros) {
            Buildmill b = new Buildmill();
            b.state(5, SET, 0, 0, 0);
            b.state(0, SET, 0, 0, 0);
            b.state(0, LIST, 7, 0, 0);
            b.state(0, row[0], row[1], row[2], row[3]);
            b.state(0, SET, 2, 6, 0);
            C.due("a 0 by statement " + row[0] + " leaves out nothing", b.value(0, 2), 6);
        }
        Buildmill around = new Buildmill();
        around.state(0, SET, 0, 999, 0);
        around.state(0, SET, 1, 1, 0);
        around.state(0, ADD, 0, 1, 0);
        around.state(0, WHEN, 0, 0, 0);
        around.state(0, ADD, 7, 7, 0);
        around.state(0, WHEN, 0, 0, 0);
        around.state(0, WHEN, 6, 0, 0);
        around.state(0, SET, 2, 6, 0);
        around.state(0, WHEN, 0, 0, 0);
        around.state(0, LOAD, 2, 0, 0);
        around.state(0, SET, 3, 7, 0);
        C.due("nothing fails that is left out", around.ruleFailure(0, 0), NONE);
        C.due("behind a WHEN that is left out", around.value(0, 2), 6);
        C.due("behind a LOAD that is left out", around.value(0, 3), 7);
        C.due("the 12th", around.state(0, WHEN, 0, 0, 0), 12);
        C.due("has no next one", around.ruleFailure(0, 0), NONE);
        C.due("and changes nothing", around.value(0, 3), 7);
    }

    private static void failingFirst() {
        C.sentence("A file fails at the first statement for which one of these reasons holds, of several the one that is listed first");
        Buildmill b = new Buildmill();
        for (int place = 0; place < 11; place++) b.state(3, SET, 0, place, 0);
        b.state(3, SHARE, 1, 2, 0);
        C.due("the 12th statement", b.ruleFailure(3, 0), 3110 + Buildmill.UNSET);
        b.unstate(3, 0);
        b.state(3, WHEN, 7, 0, 0);
        C.due("the first of two", b.ruleFailure(3, 0), 3100 + Buildmill.UNSET);
        C.due("and what was had ahead of it is not had", b.value(3, 0), NONE);

        fails("UNSET ahead of KIND, PUSH", Buildmill.UNSET, PUSH, 0, 7);
        fails("UNSET ahead of KIND, ADD", Buildmill.UNSET, ADD, 1, 7);
        fails("UNSET ahead of KIND, ADD to nothing", Buildmill.UNSET, ADD, 7, 1);
        fails("UNSET ahead of FROZEN", Buildmill.UNSET, PUSH, 3, 7);
        fails("UNSET ahead of FULL", Buildmill.UNSET, PUSH, 2, 7);
        fails("KIND ahead of FROZEN", Buildmill.KIND, PUSH, 3, 3);
        fails("KIND ahead of FULL", Buildmill.KIND, PUSH, 2, 2);
        fails("FROZEN ahead of FULL", Buildmill.FROZEN, PUSH, 3, 0);
        fails("FULL", Buildmill.FULL, PUSH, 2, 0);
        fails("FROZEN, though there is place", Buildmill.FROZEN, PUSH, 1, 0);
    }

    /** 0 has a number, 1 a loaded list, 2 an own list that is full, 3 a loaded one that is full. */
    private static void fails(String what, int reason, int kind, int n, int m) {
        Buildmill b = new Buildmill();
        b.state(1, SET, 0, 1, 0);
        b.state(1, LIST, 1, 0, 0);
        b.state(1, LIST, 3, 0, 0);
        for (int i = 0; i < 8; i++) b.state(1, PUSH, 3, 0, 0);
        b.state(0, LOAD, 0, 0, 1);
        if (n == 2) {
            b.state(0, LIST, 2, 0, 0);
            for (int i = 0; i < 8; i++) b.state(0, PUSH, 2, 0, 0);
        } else {
            b.state(0, LOAD, 1, 1, 1);
            b.state(0, LOAD, 3, 3, 1);
        }
        C.due("not yet: " + what, b.ruleFailure(0, 0), NONE);
        int statement = b.state(0, kind, n, m, 0) - 1;
        C.due(what, b.ruleFailure(0, 0), 10 * statement + reason);
        C.due("without a cause: " + what, b.ruleFailure(0, 1), NONE);
    }

    private static void reasons() {
        C.sentence("UNSET: a name that is read has nothing (what LOAD asks for, too).");
        int[][] unset = {{ADD, 0, 1}, {ADD, 1, 0}, {ADD, 1, 1}, {PUSH, 1, 0}, {PUSH, 2, 1}, {PUSH, 1, 1}, {SHARE, 0, 1}, {WHEN, 1, 0}};
        for (int[] row : unset) reason(row, Buildmill.UNSET);
        Buildmill loads = new Buildmill();
        loads.state(4, LOAD, 0, 0, 5);
        C.due("of a file without statements", loads.ruleFailure(4, 0), 4000 + Buildmill.UNSET);
        C.due("the loaded file does not fail", loads.ruleFailure(4, 1), NONE);
        loads.state(5, SET, 0, 0, 0);
        C.due("0 is not nothing", loads.ruleFailure(4, 0), NONE);
        loads.state(4, SHARE, 7, 0, 0);
        C.due("nor for SHARE", loads.value(4, 7), 0);

        C.sentence("KIND: a number is needed where a list is, or a list where a number is.");
        int[][] kind = {{ADD, 0, 2}, {ADD, 2, 0}, {ADD, 2, 2}, {PUSH, 0, 0}, {PUSH, 2, 2}, {PUSH, 0, 2}, {WHEN, 2, 0}};
        for (int[] row : kind) reason(row, Buildmill.KIND);
        int[][] none = {{SHARE, 0, 2}, {SHARE, 2, 0}, {SET, 2, 0}, {LIST, 0, 0}, {PUSH, 2, 0}, {ADD, 0, 0}, {WHEN, 0, 0}};
        for (int[] row : none) reason(row, NONE);
    }

    /** 0 has the number 0, 1 nothing, 2 a list; a NONE is no failure. */
    private static void reason(int[] row, int reason) {
        Buildmill b = new Buildmill();
        b.state(0, SET, 0, 0, 0);
        b.state(0, LIST, 2, 0, 0);
        b.state(0, row[0], row[1], row[2], 0);
        C.due("statement " + row[0] + " of " + row[1] + " and " + row[2], b.ruleFailure(0, 0), reason == NONE ? NONE : 20 + reason);
    }

    private static void cycles() {
        C.sentence("CYCLE: LOAD of a file that is being evaluated (itself, too).");
        Buildmill b = new Buildmill();
        for (int file = 0; file < 6; file++) {
            b.state(file, SET, 0, file, 0);
            b.state(file, LOAD, 0, 0, (file + 1) % 6);
        }
        for (int file = 0; file < 6; file++) {
            for (int depth = 0; depth < 5; depth++) {
                C.due("on the way round", b.ruleFailure(file, depth), (file + depth) % 6 * 1000 + 10 + Buildmill.LOADED);
            }
            C.due("the last one", b.ruleFailure(file, 5), (file + 5) % 6 * 1000 + 10 + Buildmill.CYCLE);
            C.due("no more", b.ruleFailure(file, 6), NONE);
        }
        b.unstate(3, 1);
        C.due("no ring any more", b.value(4, 0), 3);
        C.due("nor from 3 itself", b.value(3, 0), 3);
        Buildmill itself = new Buildmill();
        itself.state(5, SET, 0, 1, 0);
        itself.state(5, LOAD, 1, 0, 5);
        C.due("itself", itself.ruleFailure(5, 0), 5010 + Buildmill.CYCLE);

        C.sentence("(CYCLE and LOADED hold ahead of UNSET for what LOAD asks for.)");
        itself.unstate(5, 1);
        itself.state(5, LOAD, 1, 7, 5);
        C.due("CYCLE ahead of UNSET", itself.ruleFailure(5, 0), 5010 + Buildmill.CYCLE);
        itself.state(0, LOAD, 1, 6, 5);
        C.due("LOADED ahead of UNSET", itself.ruleFailure(0, 0), Buildmill.LOADED);

        C.sentence("LOADED: LOAD of a file that fails; its cause is the failure of that file.");
        C.due("the cause", itself.ruleFailure(0, 1), 5010 + Buildmill.CYCLE);
        C.due("no cause of that", itself.ruleFailure(0, 2), NONE);
        itself.state(0, SET, 1, 0, 0);
        C.due("the whole file fails", itself.value(0, 1), NONE);
    }

    private static void anew() {
        C.sentence("Whatever is asked of a rule file is found by evaluating that file anew, and within that each file that is loaded once, when it is loaded first.");
        Buildmill b = new Buildmill();
        b.state(3, SET, 0, 600, 0);
        b.state(3, ADD, 0, 0, 0);
        b.state(3, LIST, 1, 0, 0);
        b.state(3, PUSH, 1, 0, 0);
        for (int file = 0; file < 3; file++) {
            if (file == 0) b.state(0, LOAD, 3, 1, 1);
            if (file == 0) b.state(0, LOAD, 4, 1, 2);
            b.state(file, LOAD, 0, 0, 3);
            b.state(file, LOAD, 1, 1, 3);
        }
        C.due("loaded by three files, and no cycle", b.ruleFailure(0, 0), NONE);
        C.due("added once", b.value(0, 0), 200);
        for (int name = 1; name < 5; name++) {
            if (name == 2) continue;
            C.due("pushed once", b.listAt(0, name, 0), 200);
            C.due("and not twice", b.listAt(0, name, 1), NONE);
        }
        b.unstate(3, 1);
        C.due("anew behind a change", b.value(0, 0), 600);
        C.due("the list, too", b.listAt(0, 4, 0), 600);
        b.state(3, WHEN, 7, 0, 0);
        C.due("failing now", b.ruleFailure(0, 2), 3030 + Buildmill.UNSET);
        C.due("by the first that loads it", b.ruleFailure(0, 1), 1000 + Buildmill.LOADED);
        b.unstate(3, 3);
        C.due("mended", b.value(0, 0), 600);
    }

    // ---- settings, toolchains

    private static void settings() {
        C.sentence("There are the settings 0 to 3, each with a value 0 to 3, at first 0.");
        Buildmill b = new Buildmill();
        for (int setting = 0; setting < 4; setting++) C.due("at first", b.setting(setting, setting), 0);
        for (int value = 3; value >= 0; value--) {
            for (int setting = 0; setting < 4; setting++) {
                C.due("before", b.setting(setting, value), value == 3 ? setting : value + 1);
            }
        }
        C.noPlace("setting 4", () -> b.setting(4, 0));
        C.noPlace("setting -1", () -> b.setting(-1, 0));
        C.noRange("value 4", () -> b.setting(3, 4));
        C.noRange("value -1", () -> b.setting(3, -1));
        for (int setting = 0; setting < 4; setting++) C.due("nothing changed", b.setting(setting, 0), 0);
    }

    private static void toolchains() {
        C.sentence("Toolchains are a row of at most 8; a toolchain has a type, 0 to 2, a version, 0 to 99, and perhaps needs a setting to have a value.");
        Buildmill b = new Buildmill();
        b.target(0, Buildmill.JOIN, 0);
        b.uses(0, 2);
        for (int i = 0; i < 7; i++) C.due("one more", b.toolchain(i % 2, NONE, 0, 99), i + 1);
        C.due("none of the type", b.targetError(0, 0), Buildmill.NO_TOOL);
        C.due("the 8th", b.toolchain(2, NONE, 0, 99), 8);
        C.due("is found", b.outputFromNothing(0), 99);
        C.noState("a 9th", () -> b.toolchain(2, NONE, 0, 0));
        C.due("the 8th goes", b.untool(7), 7);
        C.due("not found", b.targetError(0, 0), Buildmill.NO_TOOL);
        C.due("the version 0", b.toolchain(2, NONE, 0, 0), 8);
        C.due("is found, too", b.outputFromNothing(0), 0);
        for (int left = 7; left >= 0; left--) C.due("left", b.untool(0), left);
        C.noPlace("none to take", () -> b.untool(0));
        for (int setting = 0; setting < 4; setting++) {
            for (int value = 0; value < 4; value++) needs(setting, value);
        }
    }

    private static void needs(int setting, int value) {
        Buildmill b = new Buildmill();
        b.target(0, Buildmill.JOIN, 0);
        b.uses(0, 0);
        b.toolchain(0, setting, value, 50);
        for (int other = 0; other < 4; other++) {
            for (int its = 0; its < 4; its++) {
                b.setting(other, its);
                int due = (other == setting ? its : 0) == value ? 50 : NONE;
                C.due("needs " + setting + " " + value + ", has " + other + " " + its, b.outputFromNothing(0), due);
            }
            b.setting(other, 0);
        }
    }

    private static void resolving() {
        C.sentence("In a configuration a type is RESOLVED to the first toolchain of the row that has this type, and whose need holds.");
        Buildmill b = new Buildmill();
        b.target(0, Buildmill.JOIN, 0);
        b.uses(0, 1);
        b.toolchain(0, NONE, 0, 1);
        b.toolchain(1, 0, 3, 2);
        b.toolchain(1, 1, 1, 3);
        b.toolchain(1, NONE, 0, 4);
        b.toolchain(1, NONE, 0, 5);
        C.due("the first without a need", b.outputFromNothing(0), 4);
        b.setting(1, 1);
        C.due("one whose need holds, ahead of it", b.outputFromNothing(0), 3);
        b.setting(0, 3);
        C.due("and one ahead of that", b.outputFromNothing(0), 2);
        Mills.of(b, Buildmill.JOIN, 100, 0);
        b.uses(1, 1);
        b.transit(1, 0, 0);
        C.due("each in its own configuration", b.outputFromNothing(1), 100 + 2 + 3);
        b.uses(1, NONE);
        C.due("0 without a type", b.outputFromNothing(1), 100 + 3);
    }

    // ---- targets

    private static void manyTargets() {
        C.sentence("Targets are numbered from 0, at most 16.");
        Buildmill b = new Buildmill();
        C.noPlace("none at first", () -> b.targetError(0, 0));
        for (int target = 0; target < 16; target++) C.due("number", b.target(0, Buildmill.JOIN, target), target);
        C.noState("a 17th", () -> b.target(0, Buildmill.JOIN, 0));
        C.noPlace("and there is none", () -> b.targetError(16, 0));
        C.due("the last one", b.outputFromNothing(15), 15);
        C.due("all are built", b.build((1 << 16) - 1, false, 0), 16);
        C.due("the last one alone", b.build(1 << 15, false, 0), 1);
        C.noPlace("a 17th is not", () -> b.build(1 << 16, false, 0));
    }

    private static void items() {
        C.sentence("a row of at most 6 items (source paths, globs of its directory, and targets with lower numbers)");
        Buildmill b = Mills.withFiles();
        b.target(0, Buildmill.TALLY, 0);
        b.target(0, Buildmill.JOIN, 0);
        for (int i = 0; i < 6; i++) C.due("a path", b.source(1, 0), i + 1);
        C.due("the sixth counts", b.outputFromNothing(1), 21);
        C.noState("no seventh path", () -> b.source(1, 0));
        C.noState("no seventh glob", () -> b.glob(1, 0, false));
        C.noState("no seventh target", () -> b.depend(1, 0));
        C.due("still six", b.drop(1), 5);
        C.due("a glob as the sixth", b.glob(1, 2, false), 6);
        C.due("counts", b.outputFromNothing(1), 15 + 6 * 11);
        C.due("away", b.drop(1), 5);
        C.due("a target as the sixth", b.depend(1, 0), 6);
        C.due("counts, too", b.outputFromNothing(1), 15);
        C.noState("no seventh", () -> b.source(1, 0));
        for (int left = 5; left >= 0; left--) C.due("left", b.drop(1), left);
        C.noState("none to take", () -> b.drop(1));
        C.noRange("not itself", () -> b.depend(1, 1));
        C.noRange("none with a higher number", () -> b.depend(0, 1));
        C.due("the one below it", b.depend(1, 0), 1);
    }

    private static void conditions() {
        C.sentence("Its number is then that of its first condition whose setting has that value in the configuration; if there is none, what a name of a rule file has, if that was told, otherwise its own.");
        Buildmill b = new Buildmill();
        b.target(0, Buildmill.JOIN, 999);
        C.due("its own", b.outputFromNothing(0), 999);
        b.numberFrom(0, 5, 7);
        b.state(5, SET, 7, 0, 0);
        C.due("0 is a number that a file has", b.outputFromNothing(0), 0);
        for (int i = 0; i < 3; i++) b.choose(0, i, 3, i + 1);
        C.due("the fourth", b.choose(0, 3, 3, 0), 4);
        C.noState("no fifth", () -> b.choose(0, 0, 0, 0));
        b.unstate(5, 0);
        C.due("none holds", b.targetError(0, 0), Buildmill.NO_RULE);
        b.setting(3, 3);
        C.due("the fourth holds, and 0 is its number", b.outputFromNothing(0), 0);
        for (int i = 2; i >= 0; i--) {
            b.setting(i, 3);
            C.due("one ahead of it", b.outputFromNothing(0), i + 1);
        }
        for (int setting = 0; setting < 4; setting++) {
            for (int value = 0; value < 4; value++) {
                Buildmill each = new Buildmill();
                each.target(0, Buildmill.JOIN, 1);
                each.choose(0, setting, value, 999);
                C.due("at first", each.outputFromNothing(0), value == 0 ? 999 : 1);
                each.setting(setting, value);
                C.due("with the value", each.outputFromNothing(0), 999);
                each.setting(setting, 3 - value);
                C.due("with another one", each.outputFromNothing(0), 1);
            }
        }
    }

    private static void transitions() {
        C.sentence("Targets among its items are configured by the same configuration, but with the setting of the transition having its value.");
        for (int setting = 0; setting < 4; setting++) {
            for (int value = 0; value < 4; value++) {
                Buildmill b = new Buildmill();
                b.target(0, Buildmill.JOIN, 0);
                for (int other = 0; other < 4; other++) b.choose(0, other, other == setting ? value : 2, other + 1);
                Mills.of(b, Buildmill.JOIN, 0, 0);
                b.choose(1, setting, value, 100);
                for (int other = 0; other < 4; other++) b.setting(other, value == 0 ? 3 : 0);
                C.due("no transition", b.outputFromNothing(1), 0);
                b.transit(1, setting, value);
                C.due("below it", b.outputFromNothing(1), setting + 1);
                C.due("not asked by itself", b.outputFromNothing(0), 0);
                b.setting(setting, value);
                b.transit(1, (setting + 1) % 4, value == 0 ? 3 : 0);
                C.due("the same configuration but for that", b.outputFromNothing(1), 100 + setting + 1);
                b.transit(1, setting, value == 0 ? 3 : 0);
                C.due("the setting has the transition's value", b.outputFromNothing(1), 100);
                b.transit(1, NONE, 0);
                C.due("none again", b.outputFromNothing(1), 100 + setting + 1);
            }
        }
    }

    private static void errors() {
        C.sentence("It is in ERROR for the first one of these reasons, the items being gone through in their order");
        Buildmill b = new Buildmill();
        b.target(0, Buildmill.JOIN, 0);
        b.source(0, 0);
        b.target(0, Buildmill.JOIN, 0);
        b.pack(1, true);
        b.source(1, 40);
        b.source(1, 8);
        b.depend(1, 0);
        C.due("MISSING is first", b.targetError(1, 0), 10 + Buildmill.MISSING);
        b.write(40, 0);
        C.due("then CROSSES", b.targetError(1, 0), 10 + Buildmill.CROSSES);
        b.pack(1, false);
        C.due("then MISSING of the next", b.targetError(1, 0), 10 + Buildmill.MISSING);
        b.write(8, 0);
        C.due("then DEPENDS", b.targetError(1, 0), 10 + Buildmill.DEPENDS);
        b.write(0, 0);
        C.due("then none", b.targetError(1, 0), NONE);

        C.sentence("CROSSES: a source path does not belong to its directory; MISSING: there is no file at a source path");
        Buildmill c = Mills.full(0);
        c.pack(1, true);
        for (int path = 0; path < 48; path++) {
            if (path % 8 != 0 && path % 8 != 7) continue;
            int target = Mills.one(c, Buildmill.JOIN, 0, path);
            boolean belongs = path / 8 == 0 || path / 8 == 2 || path / 8 == 5;
            C.due("path " + path, c.targetError(target, 0), belongs ? NONE : 10 * target + Buildmill.CROSSES);
            c.erase(path);
            C.due("without a file, path " + path, c.targetError(target, 0), 10 * target + (belongs ? Buildmill.MISSING : Buildmill.CROSSES));
        }
        Buildmill up = Mills.full(0);
        up.pack(3, true);
        up.target(3, Buildmill.JOIN, 0);
        up.source(0, 31);
        C.due("the last path of a package in a package", up.targetError(0, 0), NONE);
        up.source(0, 8);
        C.due("a path of the directory in which it lies", up.targetError(0, 0), Buildmill.CROSSES);

        C.sentence("NO_PACKAGE: its directory is no package.");
        for (int directory = 0; directory < 6; directory++) {
            Buildmill p = new Buildmill();
            p.target(directory, Buildmill.JOIN, 0);
            C.due("directory " + directory, p.targetError(0, 0), directory == 0 ? NONE : Buildmill.NO_PACKAGE);
            if (directory == 0) continue;
            C.due("not built", p.build(1, false, 0), NONE);
            p.pack(directory, true);
            C.due("built as a package", p.build(1, false, 0), 1);
            p.pack(directory, false);
            C.due("no package again", p.targetError(0, 0), Buildmill.NO_PACKAGE);
        }

        C.sentence("NO_TOOL: its type is not resolved.");
        for (int type = 0; type < 3; type++) {
            Buildmill t = new Buildmill();
            t.target(0, Buildmill.JOIN, 0);
            C.due("without a type none is needed", t.targetError(0, 0), NONE);
            t.uses(0, type);
            C.due("no toolchains", t.targetError(0, 0), Buildmill.NO_TOOL);
            for (int other = 0; other < 3; other++) if (other != type) t.toolchain(other, NONE, 0, 0);
            C.due("none of the type", t.targetError(0, 0), Buildmill.NO_TOOL);
            t.toolchain(type, 3, 3, 0);
            C.due("one that needs more", t.targetError(0, 0), Buildmill.NO_TOOL);
            t.setting(3, 3);
            C.due("resolved, to the version 0", t.targetError(0, 0), NONE);
        }

        C.sentence("NO_RULE: its number comes from a rule file, and that fails, or the name has no number.");
        Buildmill n = new Buildmill();
        n.target(0, Buildmill.JOIN, 0);
        n.numberFrom(0, 2, 0);
        C.due("the name has nothing", n.targetError(0, 0), Buildmill.NO_RULE);
        n.state(2, LIST, 0, 0, 0);
        C.due("the name has a list", n.targetError(0, 0), Buildmill.NO_RULE);
        n.state(2, SET, 0, 999, 0);
        C.due("a number", n.targetError(0, 0), NONE);
        n.state(2, WHEN, 1, 0, 0);
        C.due("the file fails behind it", n.targetError(0, 0), Buildmill.NO_RULE);
        C.due("and builds find that, too", n.build(1, false, 0), NONE);
        n.unstate(2, 2);
        C.due("and that it is mended", n.build(1, false, 0), 1);
        n.state(2, SET, 0, 7, 0);
        n.build(1, false, 0);
        C.due("and another number", n.output(0), 7);
        n.shards(0, 1, 0);
        n.state(2, SET, 0, 3, 0);
        C.due("a test finds it, too", n.test(0), 0);
        n.state(2, SET, 0, 4, 0);
        C.due("and the next one", n.test(0), 1);

        Buildmill own = new Buildmill();
        own.target(0, Buildmill.JOIN, 0);
        own.numberFrom(0, 0, 0);
        own.choose(0, 0, 1, 5);
        own.transit(0, 0, 1);
        C.due("the condition holds for its items alone", own.targetError(0, 0), Buildmill.NO_RULE);
        own.setting(0, 1);
        own.transit(0, 0, 0);
        C.due("it holds for the target alone", own.targetError(0, 0), NONE);
        C.due("whose number does not come from a rule file then", own.outputFromNothing(0), 5);

        C.sentence("DEPENDS: a target, so configured, is in error; its cause is the error of that.");
        Buildmill d = new Buildmill();
        d.target(0, Buildmill.JOIN, 0);
        d.uses(0, 0);
        d.toolchain(0, 0, 1, 0);
        for (int target = 1; target < 16; target++) Mills.of(d, Buildmill.JOIN, 0, target - 1);
        for (int depth = 0; depth < 15; depth++) C.due("depth " + depth, d.targetError(15, depth), 10 * (15 - depth) + Buildmill.DEPENDS);
        C.due("the last cause", d.targetError(15, 15), Buildmill.NO_TOOL);
        C.due("no more", d.targetError(15, 16), NONE);
        d.transit(3, 0, 1);
        C.due("so configured it is not", d.targetError(15, 0), NONE);
        C.due("but otherwise it is", d.targetError(2, 2), Buildmill.NO_TOOL);
    }

    private static void tooMany() {
        C.sentence("At last TOO_MANY: there would be more than 40 inputs.");
        Buildmill b = Mills.full(1);
        b.target(0, Buildmill.TALLY, 0);
        b.glob(0, 255, true);
        C.due("48 by one glob", b.targetError(0, 0), Buildmill.TOO_MANY);
        C.due("and not built", b.build(1, true, 0), 0);
        for (int path = 40; path < 48; path++) b.erase(path);
        C.due("40 by one glob", b.targetError(0, 0), NONE);
        C.due("all count", b.outputFromNothing(0), 40);
        C.due("they are built", b.build(1, false, 0), 1);
        b.glob(0, 0, false);
        b.glob(0, 0, true);
        C.due("a glob that finds none adds none", b.targetError(0, 0), NONE);
        b.drop(0);
        b.drop(0);
        C.due("the 40th", b.input(0, 39), 39);
        C.due("and no more", b.input(0, 40), NONE);
        b.target(0, Buildmill.TALLY, 0);
        b.source(0, 0);
        C.due("41 by a path twice", b.targetError(0, 0), Buildmill.TOO_MANY);
        b.drop(0);
        b.target(0, Buildmill.JOIN, 0);
        b.glob(2, 255, true);
        b.depend(2, 1);
        C.due("41 by a target", b.targetError(2, 0), 20 + Buildmill.TOO_MANY);
        b.erase(39);
        C.due("40 by a target", b.targetError(2, 0), NONE);
        C.due("whose content is the 40th", b.outputFromNothing(2), 39 * 40 / 2);
        b.write(40, 1);
        b.source(2, 47);
        C.due("MISSING ahead of it", b.targetError(2, 0), 20 + Buildmill.MISSING);
        b.drop(2);
        Mills.of(b, Buildmill.JOIN, 0, 2);
        C.due("the cause of another error", b.targetError(3, 1), 20 + Buildmill.TOO_MANY);
    }

    private static int actionsOf(Buildmill b) {
        b.build(3, false, 0);
        return b.actionOf(0) == b.actionOf(1) ? 1 : 2;
    }

    private static void oneAndTheSame() {
        C.sentence("Two actions are one and the same, if all these are the same (inputs one by one), and, with the operation INCLUDE, the directories of their targets, too.");
        for (int operation = 0; operation < 6; operation++) {
            if (operation == Buildmill.CHECK) continue;
            Buildmill b = Mills.withFiles();
            b.pack(2, true);
            b.target(0, operation, 3);
            b.target(2, operation, 3);
            C.due("other directories, operation " + operation, actionsOf(b), operation == Buildmill.INCLUDE ? 2 : 1);
            Buildmill same = Mills.withFiles();
            Mills.one(same, operation, 3, 1, 2);
            Mills.one(same, operation, 3, 1, 2);
            C.due("all the same", actionsOf(same), 1);
        }
        Buildmill operations = Mills.withFiles();
        Mills.one(operations, Buildmill.JOIN, 3, 1);
        Mills.one(operations, Buildmill.STRIP, 3, 1);
        C.due("another operation", actionsOf(operations), 2);
        Buildmill sums = Mills.withFiles();
        Mills.one(sums, Buildmill.JOIN, 3, 1);
        Mills.one(sums, Buildmill.JOIN, 2, 1);
        sums.toolchain(0, NONE, 0, 1);
        sums.uses(1, 0);
        C.due("the same sum of number and version", actionsOf(sums), 2);
        C.due("and of contents", sums.output(0) - sums.output(1), 0);
        sums.toolchain(1, NONE, 0, 0);
        sums.uses(1, 1);
        sums.choose(1, 0, 0, 3);
        C.due("the version 0 is that without a type", actionsOf(sums), 1);
        Buildmill orders = Mills.withFiles();
        Mills.one(orders, Buildmill.TALLY, 3, 1, 2);
        Mills.one(orders, Buildmill.TALLY, 3, 2, 1);
        C.due("another order", actionsOf(orders), 2);
        orders.drop(1);
        C.due("fewer inputs", actionsOf(orders), 2);
        orders.drop(1);
        orders.glob(1, 6, false);
        C.due("a glob of the same paths", actionsOf(orders), 1);
        Buildmill kinds = Mills.withFiles();
        Mills.one(kinds, Buildmill.JOIN, 3);
        kinds.target(0, Buildmill.JOIN, 4);
        kinds.source(1, 0);
        Mills.of(kinds, Buildmill.JOIN, 4, 0);
        kinds.build(7, false, 0);
        C.due("the path 0 is not the action 0", kinds.actions(), 3);
    }

    private static void numbering() {
        C.sentence("Actions are numbered from 0, as they are found first by a build (not by what is asked), those of inputs ahead of the action itself, in the order of the items.");
        Buildmill b = Mills.withFiles();
        Mills.one(b, Buildmill.JOIN, 0, 0);
        Mills.one(b, Buildmill.JOIN, 1, 1);
        Mills.of(b, Buildmill.JOIN, 2, 1, 0);
        Mills.one(b, Buildmill.JOIN, 3, 3);
        Mills.of(b, Buildmill.JOIN, 4, 3, 2, 0);
        for (int target = 0; target < 5; target++) {
            C.due("not by being asked", b.actionOf(target), NONE);
            b.outputFromNothing(target);
            b.targetError(target, 0);
            b.output(target);
        }
        C.due("still none", b.actions(), 0);
        b.build(16 | 2, false, 0);
        int[] due = {2, 0, 3, 1, 4};
        for (int target = 0; target < 5; target++) C.due("of target " + target, b.actionOf(target), due[target]);
        C.due("the first input", b.input(4, 0), 100 + 1);
        C.due("the second", b.input(4, 1), 100 + 3);
        C.due("the third", b.input(4, 2), 100 + 2);
        C.due("inputs of the second", b.input(3, 0), 100);
        Mills.one(b, Buildmill.JOIN, 5, 5);
        b.shards(5, 1, 0);
        b.test(5);
        C.due("a test finds them, too", b.actionOf(5), 5);
        b.source(0, 40);
        Mills.one(b, Buildmill.JOIN, 6, 6);
        b.build(64 | 1, false, 0);
        C.due("not a build that found an error", b.actionOf(6), NONE);
        b.build(64 | 1, true, 0);
        C.due("but one that goes on", b.actionOf(6), 6);
        b.write(6, 999);
        b.build(64, false, 0);
        C.due("contents do not matter", b.actions(), 7);
    }

    private static void manyActions() {
        C.sentence("They stay; there are at most 120.");
        Buildmill b = new Buildmill();
        for (int target = 0; target < 15; target++) b.target(0, Buildmill.JOIN, target);
        b.target(0, Buildmill.JOIN, 500);
        for (int version = 0; version < 8; version++) {
            if (version > 0) b.untool(0);
            b.toolchain(0, NONE, 0, version);
            for (int target = 0; version == 0 && target < 15; target++) b.uses(target, 0);
            C.due("15 more", b.build((1 << 15) - 1, false, 0), 15);
        }
        C.due("120", b.actions(), 120);
        C.due("the last one", b.actionOf(14), 119);
        C.due("became", b.became(119, 0), Buildmill.RAN);
        C.noState("the 121st", () -> b.build(1 << 15, false, 0));
        C.noState("the 121st with others", () -> b.build((1 << 16) - 1, true, 0));
        C.due("there is none", b.actionOf(15), NONE);
        C.noPlace("nor a number of it", () -> b.became(120, 0));
        C.due("what it has from nothing", b.outputFromNothing(15), 500);
        C.due("the last build is still that", b.told(1 + Buildmill.RAN), 15);
        b.untool(0);
        b.toolchain(0, NONE, 0, 0);
        C.due("the first ones stay", b.build((1 << 15) - 1, false, 0), 15);
        C.due("up to date", b.told(1), 15);
        C.due("as numbered then", b.actionOf(14), 14);
    }

    // ---- operations

    private static int given(int operation, int number, int version, int... contents) {
        Buildmill b = new Buildmill();
        for (int i = 0; i < contents.length; i++) b.write(i, contents[i]);
        b.toolchain(1, NONE, 0, version);
        int target = b.target(0, operation, number);
        b.uses(target, 1);
        b.glob(target, 255, true);
        int from = b.outputFromNothing(target);
        b.build(1, true, 0);
        C.due("built as from nothing", b.output(target), from);
        return from;
    }

    private static int[] many(int count, int content) {
        int[] contents = new int[count];
        for (int i = 0; i < count; i++) contents[i] = content;
        return contents;
    }

    private static void moduloThousand() {
        C.sentence("What an action gives is a content, modulo 1000");
        for (int operation = 0; operation < 6; operation++) {
            boolean isCheck = operation == Buildmill.CHECK;
            C.due("999 of " + operation, given(operation, 999, 0), 999);
            C.due("1000 of " + operation, given(operation, 999, 1), 0);
            C.due("1098 of " + operation, given(operation, 999, 99), 98);
            C.due("0 of " + operation, given(operation, 0, 0), isCheck ? NONE : 0);
        }
        C.due("JOIN of 999 by a content", given(Buildmill.JOIN, 0, 99, 900), 999);
        C.due("JOIN of 1000 by a content", given(Buildmill.JOIN, 1, 99, 900), 0);
        C.due("STRIP of 1000", given(Buildmill.STRIP, 901, 0, 999), 0);
        C.due("MOST of 1000", given(Buildmill.MOST, 1, 0, 3, 999), 0);
        C.due("MOST of 2097", given(Buildmill.MOST, 999, 99, 999), 97);
        C.due("TALLY of 1000", given(Buildmill.TALLY, 998, 0, 5, 5), 0);
        C.due("INCLUDE of 1000", given(Buildmill.INCLUDE, 502, 0, 249, 249), 0);
    }

    private static void joinAndStrip() {
        C.sentence("JOIN: N, x1, 2 * x2, 3 * x3, and so on, added.");
        C.due("without inputs", given(Buildmill.JOIN, 7, 5), 12);
        C.due("in their order", given(Buildmill.JOIN, 0, 0, 1, 10, 100), 321);
        C.due("40 of the greatest", given(Buildmill.JOIN, 999, 99, many(40, 999)), (1098 + 999 * 820) % 1000);
        C.sentence("STRIP: N, and all contents divided by 10 (rounded down), added.");
        C.due("without inputs", given(Buildmill.STRIP, 7, 5), 12);
        C.due("0", given(Buildmill.STRIP, 0, 0, 0), 0);
        C.due("9", given(Buildmill.STRIP, 0, 0, 9), 0);
        C.due("10", given(Buildmill.STRIP, 0, 0, 10), 1);
        C.due("19", given(Buildmill.STRIP, 0, 0, 19), 1);
        C.due("999", given(Buildmill.STRIP, 0, 0, 999), 99);
        C.due("each rounded by itself", given(Buildmill.STRIP, 9, 0, 9, 9, 15), 10);
        C.due("40 of the greatest", given(Buildmill.STRIP, 0, 0, many(40, 999)), 960);
    }

    private static void mostAndTally() {
        C.sentence("MOST: the greatest of all contents (0 without inputs), and N, added.");
        C.due("without inputs", given(Buildmill.MOST, 7, 5), 12);
        C.due("the only one", given(Buildmill.MOST, 0, 0, 0), 0);
        C.due("the first", given(Buildmill.MOST, 7, 5, 30, 20, 10), 42);
        C.due("the last", given(Buildmill.MOST, 7, 5, 10, 20, 30), 42);
        C.due("two of them", given(Buildmill.MOST, 7, 5, 30, 30, 10), 42);
        C.due("40 alike", given(Buildmill.MOST, 7, 5, many(40, 30)), 42);
        C.sentence("TALLY: N, and how many inputs there are, added.");
        C.due("without inputs", given(Buildmill.TALLY, 7, 5), 12);
        C.due("one", given(Buildmill.TALLY, 7, 5, 999), 13);
        C.due("40", given(Buildmill.TALLY, 7, 5, many(40, 0)), 52);
    }

    private static void check() {
        C.sentence("CHECK: fails, if N and all contents, added, can be divided by 7; otherwise N.");
        C.due("0", given(Buildmill.CHECK, 0, 0), NONE);
        C.due("0 by contents", given(Buildmill.CHECK, 0, 0, 0, 0), NONE);
        C.due("6", given(Buildmill.CHECK, 5, 1), 6);
        C.due("7", given(Buildmill.CHECK, 5, 2), NONE);
        C.due("8", given(Buildmill.CHECK, 6, 2), 8);
        C.due("7 by contents", given(Buildmill.CHECK, 1, 1, 2, 3), NONE);
        C.due("8 by contents", given(Buildmill.CHECK, 1, 1, 3, 3), 2);
        C.due("1000", given(Buildmill.CHECK, 1, 0, 999), 1);
        C.due("1001, though 1 is left by 1000", given(Buildmill.CHECK, 2, 0, 999), NONE);
        C.due("1007, though 7 is left by 1000", given(Buildmill.CHECK, 8, 0, 999), 8);
        C.due("7 times 7 by 40 inputs", given(Buildmill.CHECK, 9, 0, many(40, 1)), NONE);
        C.due("not so by 39", given(Buildmill.CHECK, 9, 0, many(39, 1)), 9);
    }

    /** An INCLUDE of the path 0, built alone. */
    private static Buildmill including(int content) {
        Buildmill b = new Buildmill();
        b.write(0, content);
        Mills.one(b, Buildmill.INCLUDE, 0, 0);
        b.build(1, false, 0);
        return b;
    }

    private static void pointing() {
        C.sentence("A content of 500 or more points to the path that is its remainder by 48.");
        C.due("499 points to none", including(499).found(0, 0), NONE);
        C.due("0 points to none", including(0).found(0, 0), NONE);
        int[] contents = {500, 527, 528, 575, 576, 999};
        int[] due = {20, 47, 0, 47, 0, 39};
        for (int i = 0; i < contents.length; i++) {
            int seen = due[i] == 0 ? contents[i] : -2 - due[i];
            C.due(contents[i] + " points to " + due[i], including(contents[i]).found(0, 0), seen);
            C.due("and to no more", including(contents[i]).found(0, 1), NONE);
        }
        for (int content = 500; content < 1000; content += 7) {
            Buildmill b = including(content);
            if (content % 48 != 0) C.due("of " + content, b.found(0, 0), -2 - content % 48);
        }
        C.sentence("The paths that were looked at are what was found, in this order, each with the content that was seen, or with the fact that no file was seen.");
        Buildmill chain = including(500);
        C.due("no file", chain.found(0, 0), -2 - 20);
        chain.write(20, 0);
        chain.build(1, false, 0);
        C.due("a file with the content 0", chain.found(0, 0), 20000);
        C.due("which is the end", chain.found(0, 1), NONE);
        chain.write(20, 499);
        C.due("what is found counts", chain.outputFromNothing(0), 999);
        chain.build(1, false, 0);
        C.due("499 ends it", chain.found(0, 1), NONE);
        chain.write(20, 501);
        chain.write(21, 502);
        C.due("and so on", chain.outputFromNothing(0), (500 + 501 + 502) % 1000);
        chain.build(1, false, 0);
        C.due("until there is no file", chain.found(0, 2), -2 - 22);
        C.due("which is the end", chain.found(0, 3), NONE);
        Buildmill above = new Buildmill();
        above.target(0, Buildmill.JOIN, 547);
        Mills.of(above, Buildmill.INCLUDE, 0, 0);
        above.build(2, false, 0);
        C.due("a content of an action points, too", above.found(1, 0), -2 - 19);
    }

    private static void lookingOnce() {
        C.sentence("A path that was looked at by this action already is not looked at again, and what is behind it neither.");
        Buildmill itself = including(528);
        C.due("it points to itself, an input", itself.output(0), 56);
        C.due("and is looked at once", itself.found(0, 1), NONE);

        Buildmill two = new Buildmill();
        two.write(0, 520);
        two.write(1, 568);
        two.write(40, 600);
        two.write(24, 3);
        Mills.one(two, Buildmill.INCLUDE, 0, 0, 1, 0);
        two.build(1, false, 0);
        C.due("both point to 40", two.output(0), (520 + 568 + 520 + 600 + 3) % 1000);
        C.due("first", two.found(0, 0), 40600);
        C.due("behind it", two.found(0, 1), 24003);
        C.due("no more", two.found(0, 2), NONE);
        two.write(1, 552);
        two.write(24, 616);
        two.build(1, false, 0);
        C.due("the second points to what is behind", two.output(0), (520 + 552 + 520 + 600 + 616) % 1000);
        C.due("that points back", two.found(0, 1), 24616);
        C.due("to what was looked at", two.found(0, 2), NONE);
        two.erase(40);
        two.build(1, false, 0);
        C.due("no file was seen", two.found(0, 0), -2 - 40);
        C.due("so what was behind is found by the second", two.found(0, 1), 24616);
        C.due("and 40 not looked at again", two.found(0, 2), NONE);
    }

    private static void sandboxed() {
        C.sentence("With the sandbox, which is on at first, an INCLUDE sees files only at paths that belong to the directory of the target, or are inputs of the action; at other ones it sees none. Without it, it sees all files.");
        Buildmill b = Mills.full(1);
        b.pack(1, true);
        b.pack(5, true);
        for (int path = 0; path < 48; path++) {
            if (path == 0) continue;
            b.write(0, 528 + path % 48);
            int[] sees = {0, 1, 0, 1, 1, 5};
            int target = path == 1 ? Mills.one(b, Buildmill.INCLUDE, 0, 0) : 0;
            int due = (528 + path + (sees[path / 8] == 0 ? 1 : 0)) % 1000;
            C.due("path " + path, b.outputFromNothing(target), due);
        }
        b.target(1, Buildmill.INCLUDE, 600);
        b.write(8, 528);
        b.source(1, 8);
        C.due("another package does not see the path 0", b.outputFromNothing(1), 128);
        b.write(8, 528 + 32);
        C.due("but 32, which belongs to it", b.outputFromNothing(1), 161);
        b.write(8, 528 + 40);
        C.due("and not 40", b.outputFromNothing(1), 168);
        C.due("was on", b.sandbox(false), true);
        C.due("all are seen", b.outputFromNothing(1), 169);
        b.erase(40);
        C.due("where there is a file", b.outputFromNothing(1), 168);
        b.build(2, false, 0);
        C.due("none was seen", b.found(0, 0), -2 - 40);
        b.sandbox(true);
        b.build(2, false, 0);
        C.due("none is seen as then", b.told(1), 1);
    }

    private static void lookingAtMore() {
        C.sentence("To LOOK AT MORE is to look at a path that belongs elsewhere, and is no input, be there a file or not.");
        Buildmill b = new Buildmill();
        b.pack(1, true);
        b.write(0, 536);
        b.write(1, 5);
        Mills.one(b, Buildmill.INCLUDE, 0, 0);
        b.build(1, false, 0);
        C.due("no file, and not seen", b.told(11), 1);
        b.sandbox(false);
        b.source(0, 1);
        b.build(1, false, 0);
        C.due("no file, and no sandbox", b.told(11), 1);
        b.write(8, 529);
        b.build(1, false, 0);
        C.due("a file, and then one of its own", b.told(11), 1);
        C.due("that was found, too", b.found(1, 1), 1005);
        C.due("nothing of it is far", b.entries(true), 0);
        b.write(0, 529);
        b.build(1, false, 0);
        C.due("an input is not more", b.told(11), 0);
        b.write(0, 530);
        b.build(1, false, 0);
        C.due("nor what belongs to it, without a file", b.told(11), 0);
        b.write(40, 7);
        b.write(0, 568);
        b.build(1, false, 0);
        C.due("nor in a directory that belongs to it", b.told(11), 0);
        C.due("those are far", b.entries(true), 3);
        b.pack(2, true);
        b.source(0, 1);
        b.build(1, false, 0);
        C.due("the directory belongs elsewhere now", b.told(11), 1);
        b.build(1, false, 0);
        C.due("no run, no looking", b.told(11), 0);
    }
}
