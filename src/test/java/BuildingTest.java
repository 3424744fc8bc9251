/**
 * The boundary cases of builds, sentence by sentence: what is kept, caches, bytes, time, workers,
 * failures, limits, tests in shards, queries. Answers are worked out by hand.
 */
public final class BuildingTest {
    private static final int NONE = Buildmill.NONE;
    private static final int JOIN = Buildmill.JOIN;
    private static final int UP_TO_DATE = Buildmill.UP_TO_DATE;
    private static final int NEAR = Buildmill.NEAR;
    private static final int FROM_FAR = Buildmill.FROM_FAR;
    private static final int RAN = Buildmill.RAN;
    private static final int RAN_FAR = Buildmill.RAN_FAR;
    private static final int FAILED = Buildmill.FAILED;
    private static final int SKIPPED = Buildmill.SKIPPED;
    private static final int CANCELLED = Buildmill.CANCELLED;
    private static final Check C = new Check();

    public static void main(String[] args) {
        asFromNothing();
        upToDate();
        fitting();
        nearCache();
        farCache();
        replacing();
        bytesOfFiles();
        bytesOfRuns();
        bytesFar();
        errors();
        wanted();
        weights();
        beginningAgain();
        manyAtOnce();
        endingByNumbers();
        howItBegins();
        latency();
        halfRoundedUp();
        bothWays();
        bothWaysEnding();
        whichWorker();
        warmWorkers();
        manyWorkers();
        runAs();
        fetching();
        runAgain();
        failing();
        skipping();
        limits();
        cancelling();
        figures();
        failedFirst();
        critical();
        shards();
        shardsThatStay();
        luckless();
        threeTries();
        draws();
        ways();
        C.end();
    }

    /** Gives a path a content, and builds; what became of an action. */
    private static int becameWith(Buildmill b, int path, int content, int target) {
        b.write(path, content);
        b.build(1 << target, true, 0);
        return b.became(b.actionOf(target), 0);
    }

    // ---- what is kept, caches, bytes

    private static void asFromNothing() {
        C.sentence("Nothing is run whose inputs are as they were; what is built is what a build from nothing makes.");
        Buildmill b = Mills.withFiles();
        b.write(3, 500);
        b.write(20, 501);
        Mills.one(b, Buildmill.INCLUDE, 3, 3, 1);
        Mills.of(b, Buildmill.STRIP, 5, 0);
        Mills.of(b, Buildmill.MOST, 7, 1, 0);
        int[] contents = {0, 499, 500, 528, 999, 500, 0, 11};
        for (int round = 0; round < 3; round++) {
            for (int content : contents) {
                b.write(1, content);
                b.sandbox(round != 1);
                C.due("done", b.build(7, false, 0), 3);
                for (int target = 0; target < 3; target++) C.due("with " + content, b.output(target), b.outputFromNothing(target));
                b.build(7, false, 0);
                C.due("nothing is run", b.told(1), 3);
            }
            b.pack(2, round == 0);
            b.forget(round != 0);
        }
    }

    private static void upToDate() {
        C.sentence("It is UP_TO_DATE if it is kept, its inputs have these contents, and each path that was found is seen by it now as then.");
        Buildmill b = Mills.withFiles();
        Mills.one(b, JOIN, 0, 0, 1);
        b.far(false, 1);
        C.due("not kept", becameWith(b, 0, 0, 0), RAN);
        C.due("kept", becameWith(b, 0, 0, 0), UP_TO_DATE);
        C.due("the last input", becameWith(b, 1, 2, 0), RAN);
        b.erase(0);
        C.due("a file that went is an error", b.build(1, true, 0), 0);
        C.due("and came again", becameWith(b, 0, 0, 0), UP_TO_DATE);
        b.forget(false);
        b.write(0, 1);
        b.build(1, true, 1);
        C.due("another content, in time", b.became(0, 0), RAN);
        b.forget(false);
        C.due("what was kept before is not", becameWith(b, 0, 0, 0), RAN);

        Buildmill f = Mills.withFiles();
        Mills.one(f, Buildmill.CHECK, 1, 0);
        C.due("done", becameWith(f, 0, 1, 0), RAN);
        C.due("failed", becameWith(f, 0, 6, 0), FAILED);
        C.due("failed again, for it is not kept", becameWith(f, 0, 6, 0), FAILED);
        f.forget(false);
        f.forget(true);
        C.due("what was kept is kept through failures", becameWith(f, 0, 1, 0), UP_TO_DATE);
        C.due("output", f.output(0), 1);

        Buildmill n = new Buildmill();
        n.target(0, JOIN, 0);
        C.due("without inputs", n.build(1, false, 0), 1);
        C.due("ran", n.became(0, 0), RAN);
        n.build(1, false, 0);
        C.due("kept", n.became(0, 0), UP_TO_DATE);

        Buildmill seen = new Buildmill();
        seen.write(0, 500);
        Mills.one(seen, Buildmill.INCLUDE, 0, 0);
        seen.far(false, 1);
        C.due("none seen", becameWith(seen, 0, 500, 0), RAN);
        C.due("none is seen", becameWith(seen, 0, 500, 0), UP_TO_DATE);
        seen.write(20, 0);
        C.due("a file with the content 0 is seen", becameWith(seen, 0, 500, 0), RAN);
        C.due("and so it is", becameWith(seen, 0, 500, 0), UP_TO_DATE);
        seen.pack(2, true);
        seen.forget(false);
        C.due("it belongs elsewhere: not seen", becameWith(seen, 0, 500, 0), RAN);
        seen.write(20, 7);
        C.due("nor when it changes", becameWith(seen, 0, 500, 0), UP_TO_DATE);
        seen.sandbox(false);
        C.due("without the sandbox it is", becameWith(seen, 0, 500, 0), RAN);
        C.due("with its content", seen.found(0, 0), 20007);
    }

    private static void fitting() {
        C.sentence("It FITS an action with the same operation, number and version, whose inputs have just these contents one by one, and which sees now each path that was found then as it was seen then.");
        Buildmill b = Mills.withFiles();
        b.far(false, 1);
        for (int path = 0; path < 6; path++) b.write(path, path / 2);
        b.toolchain(0, NONE, 0, 1);
        Mills.one(b, JOIN, 5, 0, 2);
        b.build(1, false, 0);
        C.due("other paths with the same contents", becameWith(b, 7, 0, Mills.one(b, JOIN, 5, 1, 3)), NEAR);
        C.due("another order", becameWith(b, 7, 0, Mills.one(b, JOIN, 5, 2, 0)), RAN);
        C.due("one input fewer", becameWith(b, 7, 0, Mills.one(b, JOIN, 5, 0)), RAN);
        C.due("one input more, of the content 0", becameWith(b, 7, 0, Mills.one(b, JOIN, 5, 0, 2, 1)), RAN);
        C.due("another number", becameWith(b, 7, 0, Mills.one(b, JOIN, 6, 0, 2)), RAN);
        C.due("another operation", becameWith(b, 7, 0, Mills.one(b, Buildmill.TALLY, 5, 0, 2)), RAN);
        int version = Mills.one(b, JOIN, 4, 0, 2);
        b.uses(version, 0);
        C.due("the same sum of number and version", becameWith(b, 7, 0, version), RAN);
        C.due("an action as input", becameWith(b, 7, 0, Mills.one(b, Buildmill.MOST, 0, 2)), RAN);
        int above = Mills.of(b, JOIN, 5);
        b.source(above, 0);
        b.depend(above, above - 1);
        C.due("whose content is the same", becameWith(b, 7, 0, above), NEAR);

        Buildmill include = new Buildmill();
        include.far(false, 1);
        include.pack(1, true);
        include.write(0, 500);
        include.write(20, 3);
        include.write(8, 500);
        Mills.one(include, Buildmill.INCLUDE, 0, 0);
        include.build(1, false, 0);
        include.target(1, Buildmill.INCLUDE, 0);
        include.source(1, 8);
        C.due("another directory does not see it", becameWith(include, 8, 500, 1), RAN);
        C.due("and has another content", include.output(1), 500);
        include.sandbox(false);
        C.due("now it sees it as then", becameWith(include, 8, 500, 1), NEAR);
        C.due("with that content", include.output(1), 503);
        C.due("and that is kept as found", include.found(1, 0), 20003);
    }

    /** One target of the path 0 with the contents least to most, built one after the other. */
    private static Buildmill after(int least, int most) {
        Buildmill b = new Buildmill();
        b.write(0, least);
        Mills.one(b, JOIN, 0, 0);
        for (int content = least; content <= most; content++) {
            b.write(0, content);
            b.build(1, false, 0);
        }
        return b;
    }

    private static void nearCache() {
        C.sentence("The NEAR cache has at most 24 entries; one that is put there, or used, becomes the latest, and if there are more, the earliest one goes.");
        C.due("none at first", new Buildmill().entries(false), 0);
        C.due("23", after(1, 23).entries(false), 23);
        C.due("24", after(1, 24).entries(false), 24);
        C.due("25 are 24", after(1, 25).entries(false), 24);
        Buildmill full = after(1, 24);
        full.far(false, 1);
        C.due("of 24 the earliest is there", becameWith(full, 0, 1, 0), NEAR);
        C.due("the 25th", becameWith(full, 0, 25, 0), RAN);
        C.due("what was used stays", becameWith(full, 0, 1, 0), NEAR);
        C.due("the earliest went", becameWith(full, 0, 2, 0), RAN);
        C.due("and then the next", becameWith(full, 0, 3, 0), RAN);
        C.due("but not the latest", becameWith(full, 0, 25, 0), NEAR);
        Buildmill over = after(1, 25);
        over.far(false, 1);
        C.due("of 25 the second is there", becameWith(over, 0, 2, 0), NEAR);
        C.due("the first went", becameWith(over, 0, 1, 0), RAN);
        Buildmill kept = after(1, 24);
        kept.far(false, 1);
        kept.write(0, 1);
        kept.build(1, false, 0);
        kept.build(1, false, 0);
        C.due("UP_TO_DATE", kept.became(0, 0), UP_TO_DATE);
        C.due("forgotten", kept.forget(false), 24);
        C.due("empty", kept.forget(false), 0);
        C.due("empty: nothing fits", becameWith(kept, 0, 24, 0), RAN);
        C.due("one", kept.entries(false), 1);
        C.due("and it fits", becameWith(kept, 0, 5, 0) == RAN && becameWith(kept, 0, 24, 0) == NEAR, true);
    }

    private static void farCache() {
        C.sentence("The FAR cache has at most 40; if one more is put, the one that was put first goes.");
        C.due("none at first", new Buildmill().entries(true), 0);
        C.due("39", after(1, 39).entries(true), 39);
        C.due("40", after(1, 40).entries(true), 40);
        C.due("41 are 40", after(1, 41).entries(true), 40);
        Buildmill full = after(1, 40);
        C.due("of 40 the first is there", becameWith(full, 0, 1, 0), FROM_FAR);
        C.due("the 41st", becameWith(full, 0, 41, 0), RAN);
        full.forget(false);
        C.due("the first went, though it was used", becameWith(full, 0, 1, 0), RAN);
        C.due("then the second", becameWith(full, 0, 2, 0), RAN);
        C.due("not the fourth", becameWith(full, 0, 4, 0), FROM_FAR);
        C.due("still 40", full.forget(true), 40);
        C.due("empty", full.forget(true), 0);
        full.forget(false);
        C.due("nothing fits", becameWith(full, 0, 41, 0), RAN);
        C.due("one", full.entries(true), 1);
        Buildmill seen = new Buildmill();
        seen.write(0, 500);
        Mills.one(seen, Buildmill.INCLUDE, 0, 0);
        C.due("none seen", becameWith(seen, 20, 3, 0), RAN);
        C.due("another content seen", becameWith(seen, 20, 4, 0), RAN);
        seen.forget(false);
        C.due("seen as then", becameWith(seen, 20, 3, 0), FROM_FAR);
        C.due("with its content", seen.output(0), 503);
        C.due("and what was found is kept", seen.found(0, 0), 20003);
        C.due("seen as at no time", becameWith(seen, 20, 5, 0), RAN);
    }

    private static void replacing() {
        C.sentence("An entry that is alike in all but the content that came is replaced by one that is put.");
        Buildmill b = Mills.withRuns(3, 4, false);
        b.write(2, 1);
        b.workers(0, 3);
        b.build(7, false, 0);
        C.due("three ran", b.told(1 + RAN), 3);
        C.due("two alike are one near", b.entries(false), 2);
        C.due("and far", b.entries(true), 2);
        b.choose(2, 0, 0, 3);
        b.forget(false);
        for (int content = 100; content < 122; content++) {
            b.write(2, content);
            b.build(4, false, 0);
        }
        C.due("22 others near", b.entries(false), 22);
        b.write(0, 700);
        b.write(1, 700);
        b.build(3, false, 0);
        C.due("two alike and 22", b.entries(false), 23);
        b.write(2, 122);
        b.build(4, false, 0);
        C.due("24", b.entries(false), 24);
        b.far(false, 1);
        C.due("the earliest is still there", becameWith(b, 2, 100, 2), NEAR);

        Buildmill far = Mills.withRuns(4, 1, false);
        far.write(1, 1);
        far.workers(0, 3);
        far.work(2, 0, 2, false);
        far.work(1, 0, 3, false);
        far.build(7, false, 0);
        C.due("far: the first, another one, and one alike to the first", far.entries(true), 2);
        for (int content = 500; content < 539; content++) {
            far.write(3, content);
            far.build(8, false, 0);
        }
        C.due("one of 41 went", far.entries(true), 40);
        far.far(false, 1);
        far.write(0, 700);
        far.write(2, 700);
        far.build(5, false, 0);
        far.far(true, 1);
        far.forget(false);
        C.due("not the one that was put again, behind the other", becameWith(far, 0, 1, 0), FROM_FAR);
        C.due("but the other", becameWith(far, 2, 21, 2), RAN);
    }

    /** Target 1 has the content 111, whose bytes are far, and not here. Target 2 is of it. */
    private static Buildmill ranFar() {
        Buildmill b = Mills.withRuns(2, 10, true);
        Mills.of(b, JOIN, 0, 1);
        b.work(2, 0, 5, false);
        b.build(3, false, 0);
        return b;
    }

    /** Whether bytes of 111 are here, when they are lost far away. */
    private static boolean isHere(Buildmill b) {
        b.lose(111);
        b.build(4, false, 0);
        return b.told(9) == 0 && b.told(1 + RAN) == 1;
    }

    private static void bytesOfFiles() {
        C.sentence("The BYTES of a content are HERE, if a file had it at the beginning of some build (not of one that found an error and did not go on)");
        C.due("run far", ranFar().became(1, 0), RAN_FAR);
        C.due("no file had it", isHere(ranFar()), false);
        for (int path : new int[] {0, 7, 40, 47}) {
            Buildmill b = ranFar();
            b.write(path, 111);
            b.build(1, false, 0);
            b.erase(path);
            C.due("a file had it", isHere(b), true);
        }
        Buildmill between = ranFar();
        between.write(47, 111);
        between.erase(47);
        between.build(1, false, 0);
        C.due("between builds", isHere(between), false);
        Buildmill error = ranFar();
        error.source(0, 40);
        error.write(47, 111);
        C.due("an error", error.build(1, false, 0), NONE);
        error.erase(47);
        C.due("found by that build", isHere(error), false);
        Buildmill goingOn = ranFar();
        goingOn.source(0, 40);
        goingOn.write(47, 111);
        C.due("only an error", goingOn.build(1, true, 0), 0);
        goingOn.erase(47);
        C.due("but it went on", isHere(goingOn), true);
        Buildmill refused = ranFar();
        refused.write(47, 111);
        C.noRange("the limit is no limit", () -> refused.build(1, true, 1000));
        C.noPlace("there is no such target", () -> refused.build(9, true, 0));
        refused.erase(47);
        C.due("builds that throw", isHere(refused), false);
        Buildmill tested = ranFar();
        tested.shards(0, 1, 0);
        tested.write(47, 111);
        tested.test(0);
        tested.erase(47);
        C.due("a test builds", isHere(tested), true);
        Buildmill itself = ranFar();
        itself.write(47, 111);
        C.due("at the beginning of that build itself", isHere(itself), true);
        refusedForActions();
        for (int content : new int[] {0, 999}) {
            Buildmill edge = Mills.withRuns(1, 10, true);
            Mills.one(edge, JOIN, content, 1);
            edge.write(1, 0);
            edge.work(1, 0, 10, true);
            Mills.of(edge, JOIN, 5, 1);
            edge.erase(1);
            edge.drop(1);
            edge.build(3, false, 0);
            C.due("run far", edge.became(1, 0), RAN_FAR);
            C.due("they were far", edge.lose(content), true);
            edge.build(4, false, 0);
            C.due("not here: " + content, edge.told(9), 1);
            edge.write(7, 500);
            edge.source(2, 7);
            edge.build(4, false, 0);
            C.due("here: " + content, edge.told(9), 0);
        }
    }

    /** 119 actions, of which that of target 1, run far, has the content 600; then a build would find two more. */
    private static void refusedForActions() {
        Buildmill b = new Buildmill();
        for (int target = 0; target < 16; target++) {
            b.target(0, JOIN, target == 0 ? 500 : target == 1 ? 600 : 20 * target);
            b.uses(target, 0);
        }
        b.depend(2, 1);
        b.work(0, 0, 20, false);
        b.work(1, 0, 2, true);
        int others = (1 << 15) - 1 - 4;
        for (int version = 0; version < 9; version++) {
            b.toolchain(0, NONE, 0, version % 8);
            b.build(3, false, 0);
            b.build(version % 8 == 0 ? others : others | 1 << 15, false, 0);
            if (version == 0) C.due("run far", b.told(1) == 14 - 12 && b.lose(600), true);
            if (version < 8) b.untool(0);
        }
        C.due("119", b.actions(), 119);
        b.write(47, 600);
        C.noState("two more", () -> b.build(4 | 1 << 15, true, 0));
        b.erase(47);
        C.due("one more", b.build(4, false, 0), 1);
        C.due("the refused build was none", b.told(9), 1);
    }

    private static void bytesOfRuns() {
        C.sentence("an action gave it that was run here, or they were fetched; they stay here.");
        Buildmill here = Mills.withRuns(1, 3, false);
        Mills.of(here, JOIN, 0, 0);
        here.build(1, false, 0);
        C.due("they are far as well", here.lose(101), true);
        here.build(2, false, 0);
        C.due("run here", here.told(9) + here.told(10), 0);
        Buildmill fetched = ranFar();
        fetched.build(4, false, 0);
        C.due("fetched", fetched.told(10), 1);
        fetched.write(7, 0);
        fetched.source(2, 7);
        C.due("they stay here", isHere(fetched), true);
        C.due("nothing is fetched", fetched.told(10), 0);
        Buildmill again = ranFar();
        C.due("run again", isHere(again), false);
        again.write(7, 0);
        again.source(2, 7);
        C.due("they stay here, too", isHere(again), true);
        Buildmill failing = ranFar();
        failing.write(7, 500);
        Mills.one(failing, Buildmill.CHECK, 111, 7);
        failing.write(7, 1);
        C.due("a failing run gives none", becameWith(failing, 7, 1, 3), FAILED);
        C.due("so they are not here", isHere(failing), false);
        Buildmill stopped = ranFar();
        Mills.one(stopped, JOIN, 111);
        stopped.target(0, JOIN, 111);
        stopped.work(3, 0, 5, false);
        stopped.build(8, false, 2);
        C.due("cancelled", stopped.told(1 + CANCELLED), 1);
        C.due("a cancelled run gives none", isHere(stopped), false);
    }

    private static void bytesFar() {
        C.sentence("They are FAR, if an action that was run gave it, and it was put into the far cache, until they are lost.");
        Buildmill b = Mills.withRuns(2, 10, true);
        C.due("not yet", b.lose(101), false);
        b.build(3, false, 0);
        C.due("run here", b.lose(101), true);
        C.due("lost", b.lose(101), false);
        C.due("run far", b.lose(111), true);
        b.forget(false);
        b.choose(0, 0, 1, 1);
        b.setting(0, 1);
        b.build(1, false, 0);
        b.setting(0, 0);
        b.write(0, 2);
        b.build(1, false, 0);
        b.write(0, 1);
        b.build(1, false, 0);
        C.due("from far or near is not run", b.lose(101), false);
        b.forget(true);
        b.forget(false);
        b.write(0, 2);
        b.build(1, false, 0);
        b.write(0, 1);
        b.forget(false);
        b.forget(true);
        b.build(1, false, 0);
        C.due("run anew, and put", b.lose(101), true);
        b.forget(true);
        C.due("bytes stay when the entry goes", b.lose(102), true);
        Buildmill cut = Mills.withRuns(1, 1, false);
        cut.far(false, 1);
        cut.build(1, false, 0);
        C.due("not put, for it was not to be reached", cut.lose(101), false);
        cut.far(true, 1);
        cut.write(0, 2);
        cut.build(1, false, 0);
        cut.far(false, 1);
        C.due("bytes are lost, too, when it is not to be reached", cut.lose(102), true);
        C.due("and are lost then", cut.lose(102), false);
        Buildmill more = new Buildmill();
        more.pack(1, true);
        more.write(0, 536);
        Mills.one(more, Buildmill.INCLUDE, 1, 0);
        more.build(1, false, 0);
        C.due("not put, for it looked at more", more.lose(537), false);
        Buildmill edges = new Buildmill();
        edges.target(0, JOIN, 0);
        edges.target(0, JOIN, 999);
        edges.build(3, false, 0);
        C.due("the content 0", edges.lose(0), true);
        C.due("the content 999", edges.lose(999), true);
        C.due("lost 0", edges.lose(0), false);
        C.due("lost 999", edges.lose(999), false);
        C.noRange("1000", () -> edges.lose(1000));
        C.noRange("-1", () -> edges.lose(-1));

        C.sentence("The far cache can be reached, or not; at first it can.");
        C.due("at first", new Buildmill().far(true, 1), true);
    }

    // ---- building

    private static void errors() {
        C.sentence("If one of them is in error, nothing is done, unless the build goes on in spite of errors: then those in error are left out.");
        Buildmill b = Mills.withRuns(3, 4, false);
        b.source(1, 40);
        b.build(1, false, 0);
        b.write(0, 5);
        C.due("the second is in error", b.build(7, false, 0), NONE);
        C.due("nothing ran", b.output(0), 101);
        C.due("nothing was found", b.actions(), 1);
        for (int what = 0; what < 12; what++) C.due("told " + what, b.told(what), 0);
        C.due("critical", b.critical(0), NONE);
        C.due("failed first", b.failedFirst(), NONE);
        for (int what = 0; what < 3; what++) C.due("became " + what, b.became(0, what), NONE);
        C.due("going on", b.build(7, true, 0), 2);
        C.due("without the second", b.actions(), 2);
        C.due("all in error", b.build(2, true, 0), 0);
        C.due("nothing is wanted", b.became(0, 0), NONE);
        C.due("no error among these", b.build(5, false, 0), 2);
        Mills.of(b, JOIN, 0, 1);
        C.due("an error below", b.build(8, false, 0), NONE);
        C.due("is one of it", b.build(9, true, 0), 1);
    }

    private static void wanted() {
        C.sentence("Otherwise (or of the others) the actions of these targets, by rising numbers of targets, and all actions below them are WANTED. The time is 0.");
        Buildmill b = Mills.withRuns(4, 4, false);
        Mills.of(b, JOIN, 0, 2, 1);
        b.build(31, false, 0);
        b.build(1 | 16, false, 0);
        int[] due = {UP_TO_DATE, UP_TO_DATE, UP_TO_DATE, NONE, UP_TO_DATE};
        for (int target = 0; target < 5; target++) {
            int action = b.actionOf(target);
            C.due("target " + target, b.became(action, 0), due[target]);
            C.due("began, target " + target, b.became(action, 1), due[target] == NONE ? NONE : 0);
            C.due("ended, target " + target, b.became(action, 2), due[target] == NONE ? NONE : 0);
        }
        C.due("four are wanted", b.told(1), 4);
        C.due("each build begins at 0", b.told(0), 0);
        b.source(0, 40);
        b.write(1, 5);
        C.due("those in error are not", b.build(1 | 16, true, 0), 1);
        C.due("below the other one", b.told(1) + b.told(1 + RAN), 3);
        Buildmill last = new Buildmill();
        for (int target = 0; target < 16; target++) last.target(0, JOIN, target);
        last.build(1 << 15 | 1 << 3 | 1, false, 0);
        C.due("rising: 0", last.actionOf(0), 0);
        C.due("3", last.actionOf(3), 1);
        C.due("15", last.actionOf(15), 2);
        C.due("no others", last.actions(), 3);
    }

    private static void weights() {
        C.sentence("The weight of a wanted action is its duration, and the greatest weight of the wanted actions of which it is an input, added.");
        Buildmill b = Mills.withRuns(2, 1, false);
        b.work(1, 0, 5, false);
        for (int i = 0; i < 3; i++) {
            Mills.of(b, JOIN, 200 + i, 0);
            b.work(2 + i, 0, 3, false);
        }
        b.build(31, false, 0);
        C.due("the greatest, and not all added", b.became(1, 1), 0);
        C.due("which is 1 and 3", b.became(0, 1), 5);
        b.write(0, 500);
        b.write(1, 500);
        b.work(3, 0, 4, false);
        b.build(31, false, 0);
        C.due("5 and 5: the lowest number", b.became(0, 1), 0);
        C.due("the 4 comes behind the 5", b.became(1, 1), 1);
        b.write(0, 501);
        b.write(1, 501);
        b.work(1, 0, 2, false);
        b.build(3, false, 0);
        C.due("what is not wanted does not weigh", b.became(1, 1), 0);
        b.write(0, 502);
        b.write(1, 502);
        Mills.of(b, JOIN, 300, 2);
        b.work(5, 0, 20, false);
        b.work(1, 0, 20, false);
        b.build(63, false, 0);
        C.due("through a chain: 1 and 3 and 20", b.became(0, 1), 0);
        C.due("not 20", b.became(1, 1) > 0, true);

        Buildmill first = Mills.withRuns(3, 1, false);
        Mills.of(first, JOIN, 200, 1);
        first.work(3, 0, 20, false);
        first.build(15, false, 0);
        C.due("the action 0 is no input of that", first.became(first.actionOf(1), 1), 0);
        C.due("so it is behind", first.became(0, 1), 1 + 10);
    }

    private static void beginningAgain() {
        C.sentence("again and again that action BEGINS which is wanted, has not begun, whose inputs are files or done, which can begin, and has the greatest weight, of several the lowest number, until there is none.");
        Buildmill chain = new Buildmill();
        chain.target(0, JOIN, 1);
        for (int target = 1; target < 16; target++) Mills.of(chain, JOIN, 1, target - 1);
        chain.build(1 << 15, false, 0);
        C.due("one after the other", chain.told(0), 16);
        chain.build(1 << 15, false, 0);
        C.due("16 at one time", chain.told(1), 16);
        C.due("no time", chain.told(0), 0);
        chain.drop(15);
        chain.source(15, 0);
        chain.write(0, 5);
        chain.depend(15, 14);
        chain.build(1 << 15, false, 0);
        C.due("behind 15 at the time 0 one runs", chain.told(1 + RAN), 1);
        C.due("it began at 0", chain.became(chain.actionOf(15), 1), 0);

        Buildmill light = Mills.withRuns(3, 9, false);
        light.work(1, 1, 1, false);
        light.work(2, 0, 2, false);
        light.build(7, false, 0);
        C.due("the heaviest has the worker", light.became(0, 1), 0);
        C.due("a light one of another kind begins", light.became(1, 1), 0);
        C.due("one that can not begin, later", light.became(2, 1), 9);
        light.write(0, 500);
        light.build(7, false, 0);
        C.due("up to date without a worker", light.became(2, 1), 0);
        light.write(0, 501);
        light.write(2, 501);
        light.build(4, false, 0);
        light.write(2, 21);
        light.build(7, false, 0);
        C.due("near without a worker", light.became(2, 0), NEAR);
        C.due("at once", light.became(2, 1), 0);
        light.write(0, 502);
        light.forget(false);
        light.write(2, 501);
        light.build(7, false, 0);
        C.due("from far without a worker", light.became(2, 0), FROM_FAR);
        C.due("also at once", light.became(2, 1), 0);
    }

    /**
     * A build of the targets 6 and 15 finds 120 actions: six leaves in 16 configurations each, which the
     * targets 7 to 14 make, the target 6 in three, and those above.
     */
    private static Buildmill hundredAndTwenty() {
        Buildmill b = new Buildmill();
        for (int leaf = 0; leaf < 6; leaf++) {
            b.target(0, JOIN, 10 * leaf);
            b.uses(leaf, 0);
            for (int value = 1; value < 4; value++) b.choose(leaf, 0, value, 10 * leaf + value);
        }
        for (int value = 1; value < 4; value++) b.toolchain(0, 1, value, 5 * value);
        b.toolchain(0, NONE, 0, 0);
        b.target(0, JOIN, 100);
        b.choose(6, 2, 0, 101);
        b.choose(6, 0, 1, 102);
        for (int value = 0; value < 4; value++) {
            Mills.of(b, JOIN, 200, 0, 1, 2, 3, 4, 5);
            b.transit(7 + value, 1, value);
        }
        for (int value = 0; value < 4; value++) {
            Mills.of(b, JOIN, 300, 7, 8, 9, 10, 6);
            b.transit(11 + value, 0, value);
        }
        Mills.of(b, JOIN, 400, 11, 12, 13, 14);
        b.transit(15, 2, 1);
        return b;
    }

    private static void manyAtOnce() {
        C.sentence("They stay; there are at most 120.");
        int targets = 1 << 15 | 1 << 6;
        Buildmill b = hundredAndTwenty();
        C.due("120 in one build", b.build(targets, false, 0), 2);
        C.due("are there", b.actions(), 120);
        C.due("all ran", b.told(1 + RAN), 120);
        C.due("one after the other", b.told(0), 120);
        C.due("the last one is on the critical way", b.critical(0), b.actionOf(15));
        b.build(targets, false, 0);
        C.due("all at one time", b.told(1), 120);
        C.due("which is 0", b.told(0), 0);
        C.due("what it has from nothing", b.output(15), b.outputFromNothing(15));
        b.choose(6, 3, 1, 103);
        b.setting(2, 1);
        b.setting(3, 1);
        C.noState("not one more", () -> b.build(1 << 6, false, 0));
        C.due("120 still", b.actions(), 120);
        Buildmill more = hundredAndTwenty();
        more.choose(6, 0, 2, 103);
        C.noState("121 in one build", () -> more.build(targets, false, 0));
        C.due("none was found", more.actions(), 0);
        C.noPlace("so there is no action 0", () -> more.became(0, 0));
        C.noState("nor in one that goes on", () -> more.build(targets, true, 0));
        C.due("without that it has place", more.build(1 << 6, false, 0), 1);
        C.due("one", more.actions(), 1);
        Buildmill tested = hundredAndTwenty();
        tested.build(targets, false, 0);
        tested.shards(6, 3, 0);
        tested.test(6);
        C.due("three tries", tested.tries(), 3);
        C.due("by one build", tested.told(1), 1);
        tested.choose(6, 3, 1, 103);
        tested.setting(2, 1);
        tested.setting(3, 1);
        C.noState("not by a test", () -> tested.test(6));
        C.due("tries of the last one that was made", tested.tries(), 3);
        C.due("its build", tested.told(1), 1);
        C.due("no shard changed", tested.shard(6, 2) == NONE, false);
        C.due("120 still", tested.actions(), 120);
    }

    private static void endingByNumbers() {
        C.sentence("At each time first all runs and fetchings that end then end, by rising numbers of actions.");
        Buildmill b = Mills.withRuns(3, 4, false);
        b.far(false, 1);
        b.work(1, 1, 4, false);
        Mills.of(b, JOIN, 0, 1);
        b.build(1 | 2 | 8, false, 0);
        C.due("both ended at 4", b.became(0, 2) + b.became(1, 2), 8);
        b.choose(2, 0, 0, 3);
        for (int content = 100; content < 121; content++) {
            b.write(2, content);
            b.build(4, false, 0);
        }
        C.due("24", b.entries(false), 24);
        b.write(2, 121);
        b.build(4, false, 0);
        b.write(6, 11);
        C.due("that of the higher number stayed", becameWith(b, 6, 11, Mills.one(b, JOIN, 100, 6)), NEAR);
        C.due("that of the lower one was put first, and went", becameWith(b, 6, 1, Mills.one(b, JOIN, 100, 6)), RAN);

        Buildmill frees = Mills.withRuns(2, 4, false);
        frees.work(1, 0, 2, false);
        frees.build(3, false, 0);
        C.due("what ends frees its worker at that time", frees.became(1, 1), 4);
        C.due("and warms it", frees.became(1, 2), 5);
    }

    private static void howItBegins() {
        C.sentence("If it is up to date, it is done at once: UP_TO_DATE.");
        Buildmill b = Mills.withRuns(1, 7, false);
        b.build(1, false, 0);
        C.due("near and far", b.entries(false) + b.entries(true), 2);
        C.due("kept, though it is in both", becameWith(b, 0, 1, 0), UP_TO_DATE);
        C.due("no time", b.told(0), 0);
        C.sentence("Otherwise, if an entry of the near cache fits, it is done at once with its content: NEAR.");
        C.due("not kept, in none", becameWith(b, 0, 2, 0), RAN);
        C.due("near, though it is far", becameWith(b, 0, 1, 0), NEAR);
        C.due("no time", b.told(0), 0);
        C.due("its content", b.output(0), 101);
        C.due("it is kept then", becameWith(b, 0, 1, 0), UP_TO_DATE);
        C.sentence("Otherwise, if the far cache can be reached, and an entry of it fits, it is done later by the latency, with its content: FROM_FAR. The entry is put into the near cache as well, when it is done.");
        b.forget(false);
        C.due("not near, far", becameWith(b, 0, 2, 0), FROM_FAR);
        C.due("the latency", b.told(0), 2);
        C.due("its content", b.output(0), 102);
        C.due("it is kept then, too", becameWith(b, 0, 2, 0), UP_TO_DATE);
        C.due("and near", b.entries(false), 1);
        C.due("where it fits", becameWith(b, 0, 1, 0) == FROM_FAR && becameWith(b, 0, 2, 0) == NEAR, true);
        b.forget(false);
        b.far(true, 2);
        b.write(0, 1);
        b.build(1, false, 1);
        C.due("not done, not put", b.entries(false), 0);
        C.sentence("Otherwise it is run here. It can begin only if a worker of its kind is free.");
        b.far(false, 1);
        C.due("not to be reached", becameWith(b, 0, 1, 0), RAN);
        C.due("half the duration", b.told(0), 4);
        Buildmill two = Mills.withRuns(2, 7, false);
        two.build(3, false, 0);
        C.due("no free worker", two.became(1, 1), 7);
        two.work(1, 1, 7, false);
        two.write(0, 5);
        two.write(1, 5);
        two.build(1, false, 0);
        two.write(0, 6);
        two.write(1, 6);
        two.build(3, false, 0);
        C.due("one of its kind", two.became(1, 1), 0);

        C.sentence("RAN if it was run here, RAN_FAR if far, FAILED if it fails.");
        for (int fails = 0; fails < 2; fails++) {
            Buildmill c = Mills.withFiles();
            c.write(0, 6 + fails);
            c.write(1, 13 + fails);
            for (int target = 0; target < 2; target++) {
                Mills.one(c, Buildmill.CHECK, 1, target);
                c.work(target, 0, 9, true);
            }
            C.due("done", c.build(3, true, 0), fails == 0 ? 0 : 2);
            C.due("here", c.became(0, 0), fails == 0 ? FAILED : RAN);
            C.due("when", c.became(0, 2), 9);
            C.due("far", c.became(1, 0), fails == 0 ? FAILED : RAN_FAR);
            C.due("when", c.became(1, 2), 11);
        }

        C.sentence("When it is done, by whichever way, it is kept; if it was run, its entry is put into the near cache, and into the far one, too, if that can be reached, and the run did not look at more.");
        put("here", 0, 0, true, true, 1, 1);
        put("here, not to be reached", 0, 0, false, true, 1, 0);
        put("here, looking at more", 8, 0, true, true, 1, 0);
        put("far", 0, 1, true, true, 1, 1);
        put("far, looking at more", 8, 1, true, true, 1, 0);
        put("failing", 0, 0, true, false, 0, 0);
        put("failing far", 0, 1, true, false, 0, 0);
    }

    /** The target 1 is built while the target 0, that fails, is run: how many entries that makes. */
    private static void put(String what, int pointed, int isFar, boolean canBeReached, boolean isDone, int near, int far) {
        Buildmill b = new Buildmill();
        b.pack(1, true);
        b.write(0, 528 + pointed);
        Mills.one(b, Buildmill.CHECK, 0);
        b.work(0, 1 - isFar, 20, false);
        Mills.one(b, isDone ? Buildmill.INCLUDE : Buildmill.CHECK, isDone ? 1 : 7 - (528 + pointed) % 7, 0);
        b.work(1, 0, 2, isFar == 1);
        b.far(canBeReached, 2);
        C.due(what + ", done", b.build(3, true, 0), isDone ? 1 : 0);
        C.due(what + ", became", b.became(1, 0), isDone ? isFar == 1 ? RAN_FAR : RAN : FAILED);
        C.due(what + ", near", b.entries(false), near);
        C.due(what + ", far", b.entries(true), far);
        b.build(2, true, 0);
        C.due(what + ", kept", b.became(1, 0), isDone ? UP_TO_DATE : FAILED);
    }

    private static void latency() {
        C.sentence("No files, rule files without statements, no targets; the latency 2.");
        for (int latency = 1; latency < 10; latency++) {
            Buildmill b = Mills.withRuns(1, 20, false);
            b.build(1, false, 0);
            b.write(0, 500);
            b.build(1, false, 0);
            b.forget(false);
            b.write(0, 1);
            if (latency != 2) C.due("could be reached", b.far(true, latency), true);
            b.build(1, false, 0);
            C.due("from far in " + latency, b.told(0), latency);
            C.due("began", b.became(0, 1), 0);
            C.due("ended", b.became(0, 2), latency);
        }
        Buildmill b = new Buildmill();
        C.noRange("latency 0", () -> b.far(false, 0));
        C.noRange("latency 10", () -> b.far(false, 10));
        C.due("can be reached still", b.far(true, 1), true);
    }

    private static void halfRoundedUp() {
        C.sentence("The run takes the duration; if the worker is WARM for the version of the action, half of it, rounded up");
        for (int duration = 1; duration <= 20; duration++) {
            Buildmill b = Mills.withRuns(1, duration, false);
            C.due("cold " + duration, Mills.timeOf(b, 1), duration);
            b.write(0, 500);
            C.due("warm " + duration, Mills.timeOf(b, 1), duration / 2 + duration % 2);
        }
        Buildmill b = Mills.withRuns(1, 1, false);
        C.noRange("duration 0", () -> b.work(0, 0, 0, true));
        C.noRange("duration 21", () -> b.work(0, 0, 21, true));
        C.due("nothing changed", Mills.timeOf(b, 1), 1);
    }

    private static void bothWays() {
        C.sentence("One that is to be run in BOTH ways, and would be run, can begin without a worker, if the far cache can be reached: it is run far, which takes the duration and the latency, and, if a worker is free then, here, too.");
        Buildmill b = Mills.withRuns(4, 10, true);
        b.work(0, 0, 20, false);
        b.build(15, false, 0);
        C.due("the first has the worker", b.became(0, 0), RAN);
        for (int action = 1; action < 4; action++) {
            C.due("far", b.became(action, 0), RAN_FAR);
            C.due("at once", b.became(action, 1), 0);
            C.due("10 and 2", b.became(action, 2), 12);
        }
        b.build(15, false, 0);
        C.due("up to date is not run", b.told(1), 4);
        C.due("near is not", becameWith(b, 1, 500, 1) == RAN && becameWith(b, 1, 11, 1) == NEAR, true);
        b.forget(false);
        C.due("what is far is not", becameWith(b, 1, 500, 1), FROM_FAR);
        C.due("it takes the latency alone", b.told(0), 2);
        b.far(false, 1);
        for (int path = 0; path < 4; path++) b.write(path, 600 + path);
        b.build(15, false, 0);
        C.due("not to be reached: all here", b.told(1 + RAN), 4);
        C.due("one after the other", b.became(1, 1), 10);
        b.far(true, 9);
        b.write(1, 700);
        b.build(2, false, 0);
        C.due("a warm worker is first", b.became(1, 0), RAN);
        C.due("by half of 10", b.became(1, 2), 5);
        C.due("of both ways one counts", b.told(1 + RAN) + b.told(1 + RAN_FAR), 1);

        Buildmill anew = Mills.withRuns(3, 4, true);
        anew.build(2, false, 0);
        C.due("here at first", anew.became(0, 0), RAN);
        anew.write(1, 500);
        anew.work(0, 0, 20, false);
        anew.work(2, 0, 2, false);
        anew.build(7, false, 0);
        C.due("far then", anew.became(0, 0), RAN_FAR);
        C.due("it has no worker that its end would free", anew.became(anew.actionOf(2), 1), 10);
        C.due("nor make cold", anew.became(anew.actionOf(2), 2), 11);

        Buildmill check = Mills.withFiles();
        Mills.one(check, JOIN, 100, 0);
        check.work(0, 0, 20, false);
        Mills.one(check, Buildmill.CHECK, 10, 1);
        check.work(1, 0, 3, true);
        check.build(3, true, 0);
        C.due("it fails far", check.became(1, 0), FAILED);
        C.due("at that time", check.became(1, 2), 5);
    }

    private static void bothWaysEnding() {
        C.sentence("What ends first counts, of both at the same time the run here; the other one ends then without anything.");
        int[] durations = {5, 6, 7, 8};
        for (int own : durations) {
            Buildmill b = Mills.withRuns(2, 4, true);
            Mills.of(b, JOIN, 0, 1);
            b.work(2, 0, own, true);
            b.far(true, 1);
            b.build(3, false, 0);
            C.due("run far", b.became(1, 0), RAN_FAR);
            b.lose(111);
            b.build(4, false, 0);
            int here = (own + 1) / 2 + 4;
            int away = own + 1;
            C.due("what became with " + own, b.became(2, 0), here <= away ? RAN : RAN_FAR);
            C.due("when, with " + own, b.became(2, 2), Math.min(here, away));
            C.due("the time with " + own, b.told(0), Math.min(here, away));
            b.write(0, 500);
            b.work(0, 0, 9, false);
            C.due("the worker is warm with " + own, Mills.timeOf(b, 1), here <= away ? 5 : 9);
        }
        Buildmill frees = Mills.withRuns(2, 4, true);
        Mills.of(frees, JOIN, 0, 1);
        frees.work(2, 0, 5, true);
        frees.far(true, 1);
        frees.build(3, false, 0);
        frees.lose(111);
        Mills.one(frees, JOIN, 300, 3);
        frees.work(3, 0, 1, false);
        frees.build(12, false, 0);
        C.due("the other one waits", frees.became(3, 1), 6);
        C.due("the far one ended then", frees.became(2, 2), 6);
        C.due("and the worker is cold", frees.became(3, 2), 7);
    }

    private static void whichWorker() {
        C.sentence("A run takes the warm one with the lowest number, if there is a free one, otherwise the free one with the lowest number.");
        Buildmill b = Mills.withRuns(4, 8, false);
        b.workers(0, 4);
        for (int version = 0; version < 4; version++) {
            b.toolchain(0, version, 1, 10 + version);
            b.uses(version, 0);
        }
        b.toolchain(0, NONE, 0, 50);
        b.setting(0, 1);
        b.build(1, false, 0);
        b.setting(0, 0);
        b.build(1, false, 0);
        C.due("no warm one: the lowest, which was warm for 10", b.told(0), 8);
        b.setting(0, 1);
        b.write(0, 500);
        b.build(1, false, 0);
        C.due("it is warm for 50 now", b.told(0), 8);
        b.write(0, 501);
        b.build(1, false, 0);
        C.due("and for 10 again", b.told(0), 4);

        Buildmill two = Mills.withRuns(3, 8, false);
        two.workers(0, 3);
        two.toolchain(1, NONE, 0, 5);
        two.uses(1, 1);
        two.build(7, false, 0);
        C.due("three cold ones", two.told(0), 8);
        two.write(2, 500);
        two.build(4, false, 0);
        C.due("a warm one", two.told(0), 4);
        two.workers(0, 1);
        two.write(0, 505);
        C.due("the lowest was warm", Mills.timeOf(two, 1), 4);
        two.workers(0, 3);
        two.write(1, 500);
        two.build(2, false, 0);
        C.due("the second was warm for 5, and went", two.told(0), 8);
        two.write(2, 501);
        two.build(4, false, 0);
        C.due("that took the lowest, so none is warm for 0", two.told(0), 8);

        Buildmill warm = Mills.withRuns(2, 8, false);
        warm.workers(0, 2);
        warm.build(3, false, 0);
        warm.write(0, 500);
        warm.toolchain(1, NONE, 0, 5);
        warm.uses(1, 1);
        warm.build(1, false, 0);
        C.due("of two warm ones the lowest", warm.told(0), 4);
        warm.workers(0, 1);
        warm.write(0, 501);
        C.due("which is warm", Mills.timeOf(warm, 1), 4);
        for (int many = 2; many <= 4; many++) {
            Buildmill lowest = Mills.withRuns(4, 8, false);
            lowest.workers(0, many);
            lowest.build(15, false, 0);
            lowest.write(0, 500);
            lowest.build(1, false, 1);
            C.due("cancelled, so the one it took is warm for none", lowest.told(1 + CANCELLED), 1);
            lowest.workers(0, 1);
            C.due("that was the lowest of " + many + " warm ones", Mills.timeOf(lowest, 1), 8);
        }
        Buildmill busy = Mills.withRuns(3, 8, false);
        busy.workers(0, 2);
        busy.build(1, false, 0);
        busy.build(6, false, 0);
        C.due("the warm one for the first", busy.became(1, 2), 4);
        C.due("the cold one for the second", busy.became(2, 2), 8);
    }

    private static void warmWorkers() {
        C.sentence("It is warm for a version if the last run that ended on it (done or failed) had that version; at first, and behind a run that ended without anything or was cancelled, it is warm for none.");
        Buildmill failed = Mills.withFiles();
        Mills.one(failed, Buildmill.CHECK, 6, 0);
        Mills.one(failed, JOIN, 0, 1);
        failed.work(0, 0, 8, false);
        failed.work(1, 0, 8, false);
        failed.build(1, false, 0);
        C.due("failed", failed.told(1 + FAILED), 1);
        C.due("and warm", Mills.timeOf(failed, 2), 4);
        C.due("a failing run is shorter, too", Mills.timeOf(failed, 1), 4);

        Buildmill zero = Mills.withRuns(2, 8, false);
        zero.toolchain(0, NONE, 0, 0);
        zero.uses(1, 0);
        C.due("at first for none, not even 0", Mills.timeOf(zero, 1), 8);
        C.due("0 by a toolchain is 0", Mills.timeOf(zero, 2), 4);
        zero.untool(0);
        zero.toolchain(0, NONE, 0, 99);
        C.due("99 is another one", Mills.timeOf(zero, 2), 8);
        zero.write(1, 5);
        C.due("warm for 99", Mills.timeOf(zero, 2), 4);
        zero.write(0, 5);
        C.due("no more for 0", Mills.timeOf(zero, 1), 8);

        Buildmill cancelled = Mills.withRuns(1, 8, false);
        cancelled.build(1, false, 0);
        cancelled.write(0, 5);
        cancelled.build(1, false, 3);
        C.due("cancelled", cancelled.told(1 + CANCELLED), 1);
        C.due("warm for none", Mills.timeOf(cancelled, 1), 8);

        Buildmill kinds = Mills.withRuns(2, 8, false);
        kinds.work(1, 2, 8, false);
        kinds.build(1, false, 0);
        C.due("a worker of another kind is another one", Mills.timeOf(kinds, 2), 8);
        kinds.work(0, 2, 8, false);
        kinds.write(0, 5);
        C.due("but warm for other actions", Mills.timeOf(kinds, 1), 4);

        C.sentence("Workers stay as they are from build to build.");
        kinds.build(3, false, 0);
        kinds.build(3, true, 1);
        kinds.source(0, 40);
        kinds.build(1, false, 0);
        kinds.write(1, 6);
        C.due("warm still", Mills.timeOf(kinds, 2), 4);
        C.due("no other number of them", kinds.workers(2, 2), 1);
        C.due("now it is", kinds.workers(2, 2), 2);
    }

    private static void manyWorkers() {
        C.sentence("Workers are of the kinds 0 to 2; of each kind there are 1 to 4, at first 1, numbered from 0.");
        for (int kind = 0; kind < 3; kind++) {
            for (int many = 1; many <= 4; many++) {
                Buildmill b = Mills.withRuns(5, 8, false);
                for (int target = 0; target < 5; target++) b.work(target, kind, 8, false);
                C.due("at first", b.workers(kind, many), 1);
                b.build(31, false, 0);
                int atOnce = 0;
                for (int action = 0; action < 5; action++) atOnce += b.became(action, 1) == 0 ? 1 : 0;
                C.due("at once with " + many, atOnce, many);
                for (int other = 0; other < 3; other++) C.due("there were", b.workers(other, 1), other == kind ? many : 1);
            }
        }
        Buildmill b = new Buildmill();
        C.noPlace("kind 3", () -> b.workers(3, 1));
        C.noPlace("kind -1", () -> b.workers(-1, 1));
        C.noRange("none", () -> b.workers(0, 0));
        C.noRange("5", () -> b.workers(2, 5));

        C.sentence("Sets how many workers of a kind there are; those with the highest numbers go, or new ones come.");
        Buildmill four = Mills.withRuns(4, 8, false);
        four.workers(0, 4);
        four.build(15, false, 0);
        four.workers(0, 2);
        four.workers(0, 4);
        for (int path = 0; path < 4; path++) four.write(path, 500);
        four.build(15, false, 0);
        C.due("the first two stayed", four.became(0, 2) + four.became(1, 2), 8);
        C.due("the others are new", four.became(2, 2) + four.became(3, 2), 16);
        four.workers(0, 4);
        for (int path = 0; path < 4; path++) four.write(path, 501);
        C.due("all stay", Mills.timeOf(four, 15), 4);
    }

    private static void runAs() {
        C.sentence("If an action belongs to several targets, it is run as that of the target by which it was found in the last build that found it; of several the first one.");
        Buildmill b = Mills.withRuns(3, 4, false);
        b.target(0, JOIN, 100);
        b.source(3, 0);
        b.work(3, 1, 20, false);
        b.build(9, false, 0);
        C.due("the first", b.told(0), 4);
        b.write(0, 5);
        b.build(8, false, 0);
        C.due("the only one", b.told(0), 20);
        b.write(0, 6);
        C.due("an error finds none", b.build(1 | 8, false, 0), 2);
        b.source(1, 40);
        b.write(0, 7);
        C.due("in error", b.build(1 | 2, false, 0), NONE);
        b.build(8, false, 0);
        C.due("as that of the only one, warm", b.told(0), 10);
        b.work(3, 0, 6, true);
        b.write(0, 8);
        b.far(true, 9);
        b.build(8, false, 0);
        C.due("as it is told now", b.told(0), 3);
    }

    private static void fetching() {
        C.sentence("if the far cache can be reached, and they are far, they are fetched, which takes no time.");
        Buildmill b = ranFar();
        Mills.of(b, JOIN, 7, 1, 1, 1);
        b.work(3, 0, 8, false);
        b.build(8, false, 0);
        C.due("half of 8", b.told(0), 4);
        C.due("one content, once", b.told(10), 1);
        C.due("none again", b.told(9), 0);
        Buildmill cut = ranFar();
        cut.far(false, 2);
        cut.build(4, false, 0);
        C.due("not to be reached: again", cut.told(9), 1);
        C.due("not fetched", cut.told(10), 0);
        C.due("3 and 10", cut.told(0), 13);
        Buildmill both = ranFar();
        both.lose(111);
        both.build(4, false, 0);
        C.due("not far: again", both.told(9), 1);
        Buildmill cancelled = ranFar();
        cancelled.build(4, false, 1);
        C.due("fetched as the run began", cancelled.told(10), 1);
        C.due("that was cancelled", cancelled.told(1 + CANCELLED), 1);
        C.due("they are here", isHere(cancelled), true);
        Buildmill far = ranFar();
        far.write(7, 0);
        Mills.one(far, JOIN, 8, 7);
        far.work(3, 0, 20, false);
        far.work(2, 0, 3, true);
        far.build(12, false, 0);
        C.due("a run far", far.became(2, 0), RAN_FAR);
        C.due("needs no bytes here", far.told(10) + far.told(9), 0);
        far.write(7, 1);
        far.source(2, 7);
        far.work(2, 0, 3, false);
        far.build(4, false, 0);
        C.due("so they were not here", far.told(10), 1);
    }

    private static void runAgain() {
        C.sentence("Otherwise the action is run AGAIN: first the same is done for its inputs, in their order; then its bytes are here, and its duration comes to the time of the run that began.");
        Buildmill b = Mills.withRuns(2, 20, true);
        b.far(true, 1);
        b.work(1, 0, 2, true);
        Mills.of(b, JOIN, 200, 1);
        b.work(2, 0, 3, true);
        b.build(7, false, 0);
        C.due("far, and far above it", b.became(1, 0) + b.became(2, 0), 2 * RAN_FAR);
        Mills.of(b, JOIN, 7, 2, 1, 2);
        b.work(3, 0, 5, false);
        b.lose(311);
        b.build(8, false, 0);
        C.due("the first again, its input fetched", b.told(9), 1);
        C.due("once", b.told(10), 1);
        C.due("3 and 3", b.told(0), 6);
        b.write(7, 0);
        b.source(3, 7);
        b.lose(111);
        b.build(8, false, 0);
        C.due("both are here then", b.told(9) + b.told(10), 0);

        Buildmill deep = new Buildmill();
        deep.far(true, 1);
        deep.target(0, JOIN, 600);
        for (int target = 1; target < 15; target++) Mills.of(deep, JOIN, 7, target - 1);
        Mills.one(deep, JOIN, 500, 0);
        for (int target = 0; target < 15; target++) deep.work(target, 0, 1, true);
        deep.work(15, 0, 20, false);
        for (int content = 1; content < 4; content++) {
            deep.write(0, content);
            deep.build(1 << 15 | 1 << 5 * content - 1, false, 0);
            C.due("five times far", deep.told(1 + RAN_FAR), 5);
        }
        deep.drop(15);
        deep.depend(15, 14);
        deep.far(false, 1);
        deep.work(15, 0, 1, false);
        C.due("all the way down", Mills.timeOf(deep, 1 << 15), 1 + 15);
        C.due("15 again", deep.told(9), 15);
        deep.write(0, 4);
        deep.source(15, 0);
        C.due("and not once more", Mills.timeOf(deep, 1 << 15), 1);

        Buildmill whole = Mills.withRuns(2, 20, true);
        whole.far(true, 1);
        whole.work(1, 0, 20, true);
        Mills.of(whole, JOIN, 0, 1);
        whole.work(2, 0, 1, false);
        whole.build(3, false, 0);
        whole.lose(111);
        whole.build(4, false, 0);
        C.due("warm for 1, but the whole 20", whole.told(0), 21);
        C.due("it is not RAN by that", whole.told(1 + RAN), 1);
        C.due("but up to date", whole.became(1, 0), UP_TO_DATE);

        Buildmill same = Mills.withRuns(2, 20, true);
        same.far(true, 1);
        same.work(1, 0, 2, true);
        Mills.of(same, JOIN, 0, 1);
        same.work(2, 0, 3, true);
        same.build(7, false, 0);
        C.due("two far", same.became(1, 0) + same.became(2, 0), 2 * RAN_FAR);
        C.due("with one content", same.output(1) * 1000 + same.output(2), 111111);
        Mills.of(same, JOIN, 7, 2);
        same.work(3, 0, 5, false);
        same.lose(111);
        same.build(8, false, 0);
        C.due("what gives the content again has it among its inputs", same.told(9), 2);
        C.due("3, and 2, and 3", same.told(0), 8);

        Buildmill twice = Mills.withRuns(3, 20, true);
        twice.far(true, 1);
        twice.write(2, 11);
        twice.work(1, 0, 2, true);
        twice.choose(2, 0, 0, 100);
        twice.work(2, 0, 3, true);
        twice.build(7, false, 0);
        C.due("two actions of one content", twice.output(1), twice.output(2));
        Mills.of(twice, JOIN, 0, 1, 2);
        twice.lose(111);
        twice.build(8, false, 0);
        C.due("one is enough", twice.told(9), 1);
        C.due("that is the first", twice.told(0), 1 + 2);
    }

    private static void failing() {
        C.sentence("Failing: when an action fails, and the build does not go on, it stops: what has begun ends, nothing begins any more.");
        Buildmill b = Mills.withFiles();
        Mills.one(b, Buildmill.CHECK, 6, 0);
        Mills.one(b, JOIN, 1, 1);
        Mills.one(b, JOIN, 2, 2);
        Mills.of(b, JOIN, 3, 1);
        Mills.one(b, JOIN, 4, 4);
        b.work(0, 0, 3, false);
        b.work(1, 1, 3, false);
        b.work(2, 2, 9, false);
        b.work(4, 0, 1, false);
        C.due("two are done", b.build(31, false, 0), 2);
        C.due("failed", b.became(0, 0), FAILED);
        C.due("what ended at that time", b.became(1, 0), RAN);
        C.due("what has begun", b.became(2, 0), RAN);
        C.due("ends", b.became(2, 2), 9);
        C.due("the time is that", b.told(0), 9);
        C.due("nothing begins", b.became(3, 0), SKIPPED);
        C.due("nor on the free worker", b.became(4, 0), SKIPPED);
        C.due("two skipped", b.told(1 + SKIPPED), 2);
        C.due("kept is what was done", b.build(6, false, 0) == 2 && b.told(1) == 2, true);
        b.shards(0, 1, 0);
        C.due("a test stops, too", b.test(0), NONE);
        Buildmill tested = Mills.withFiles();
        Mills.one(tested, Buildmill.CHECK, 6, 0);
        Mills.one(tested, JOIN, 1, 1);
        Mills.of(tested, JOIN, 2, 0, 1);
        tested.work(0, 0, 3, false);
        tested.work(1, 0, 2, false);
        tested.shards(2, 1, 0);
        tested.test(2);
        C.due("a test is a build without going on", tested.became(1, 0), SKIPPED);
        C.due("its time", tested.told(0), 3);
    }

    private static void skipping() {
        C.sentence("If it goes on, only what has the failed action among its inputs, and what has that, and so on, does not begin. Wanted actions that have not begun at the end are SKIPPED.");
        Buildmill b = Mills.withFiles();
        Mills.one(b, Buildmill.CHECK, 6, 0);
        Mills.one(b, JOIN, 1, 1);
        for (int target = 2; target < 14; target++) Mills.of(b, JOIN, target, target - 2);
        C.due("every other one", b.build((1 << 14) - 1, true, 0), 7);
        for (int target = 2; target < 14; target++) {
            C.due("target " + target, b.became(b.actionOf(target), 0), target % 2 == 0 ? SKIPPED : RAN);
        }
        C.due("skipped", b.told(1 + SKIPPED), 6);
        C.due("failed", b.told(1 + FAILED), 1);
        C.due("not kept", b.output(2), NONE);
        b.write(0, 2);
        C.due("mended, all", b.build((1 << 14) - 1, true, 0), 14);
        b.write(0, 1);
        C.due("and not again", b.build((1 << 14) - 1, true, 0), 7);
        C.due("what was kept above does not count", b.became(b.actionOf(2), 0), SKIPPED);
        C.due("nor its end", b.became(b.actionOf(2), 2), NONE);
    }

    private static void limits() {
        C.sentence("The build ends when nothing runs and nothing can begin, or at the limit; its time is that at which it ends.");
        for (int limit = 1; limit < 7; limit++) {
            Buildmill b = Mills.withRuns(3, 4, false);
            b.work(1, 0, 3, false);
            b.build(7, false, limit);
            C.due("the time with the limit " + limit, b.told(0), limit);
            C.due("ran with " + limit, b.told(1 + RAN), limit < 4 ? 0 : limit < 6 ? 1 : 2);
            C.due("cancelled with " + limit, b.told(1 + CANCELLED), limit < 4 || limit == 5 ? 1 : 0);
            C.due("skipped with " + limit, b.told(1 + SKIPPED), limit < 4 ? 2 : limit == 4 ? 2 : 1);
        }
        Buildmill exact = Mills.withRuns(1, 4, false);
        C.due("done at the limit", exact.build(1, false, 4), 1);
        C.due("its time", exact.told(0), 4);
        Buildmill later = Mills.withRuns(1, 4, false);
        C.due("done ahead of the limit", later.build(1, false, 999), 1);
        C.due("the time is not the limit", later.told(0), 4);
        C.due("up to date with the limit 1", later.build(1, false, 1), 1);
        C.due("ends at 0", later.told(0), 0);
        Buildmill longer = new Buildmill();
        longer.target(0, JOIN, 0);
        for (int target = 1; target < 16; target++) Mills.of(longer, JOIN, target, target - 1);
        for (int target = 0; target < 16; target++) longer.work(target, target % 3, 20, false);
        longer.build(1 << 15, false, 0);
        C.due("0 is no limit", longer.told(0), 3 * 20 + 13 * 10);
        C.noRange("1000", () -> longer.build(1, false, 1000));
        C.noRange("-1", () -> longer.build(1, false, -1));

        C.sentence("Then, unless the build has stopped, or this time is the time limit, again and again that action BEGINS");
        Buildmill at = Mills.withRuns(2, 4, false);
        Mills.of(at, JOIN, 0, 0);
        at.workers(0, 1);
        at.build(4, false, 0);
        at.write(0, 5);
        at.build(4, false, 0);
        at.write(0, 1);
        at.forget(false);
        at.far(true, 3);
        at.build(4, false, 3);
        C.due("fetched at the limit", at.became(0, 0), FROM_FAR);
        C.due("nothing begins at the limit, even what is far", at.became(1, 0), SKIPPED);
        at.build(4, false, 4);
        C.due("up to date at 0", at.became(0, 0), UP_TO_DATE);
        C.due("and that began", at.became(1, 1), 0);
    }

    private static void cancelling() {
        C.sentence("Time limit: if a limit is told, at that time, behind all that end then, what still runs or is fetched is CANCELLED, and nothing of it is kept.");
        Buildmill b = Mills.withRuns(4, 4, true);
        b.work(0, 0, 5, false);
        b.work(1, 1, 4, false);
        b.work(2, 2, 3, false);
        b.build(15, true, 4);
        C.due("still runs", b.became(0, 0), CANCELLED);
        C.due("ends then", b.became(1, 0), RAN);
        C.due("ended", b.became(2, 0), RAN);
        C.due("runs far", b.became(3, 0), CANCELLED);
        for (int action = 0; action < 4; action += 3) {
            C.due("began", b.became(action, 1), 0);
            C.due("ended at the limit", b.became(action, 2), 4);
            C.due("not kept", b.output(action), NONE);
            C.due("nothing found is kept", b.found(action, 0), NONE);
        }
        C.due("two entries near", b.entries(false), 2);
        C.due("and far", b.entries(true), 2);
        C.due("no bytes far", b.lose(101), false);
        b.build(1, false, 0);
        C.due("run anew, cold", b.told(0), 5);
        C.due("and far at once", b.lose(101), true);

        Buildmill kept = Mills.withRuns(1, 4, false);
        kept.build(1, false, 0);
        kept.write(0, 5);
        kept.build(1, false, 1);
        C.due("cancelled", kept.told(1 + CANCELLED), 1);
        C.due("what was done last stays", kept.output(0), 101);
        kept.write(0, 1);
        kept.forget(false);
        kept.forget(true);
        kept.build(1, false, 1);
        C.due("and is kept", kept.told(1), 1);

        Buildmill looked = Mills.withFiles();
        looked.write(0, 500);
        looked.write(20, 3);
        Mills.one(looked, Buildmill.INCLUDE, 0, 0);
        looked.work(0, 0, 4, false);
        looked.build(1, false, 3);
        C.due("cancelled", looked.told(1 + CANCELLED), 1);
        C.due("what it would have found is not kept", looked.found(0, 0), NONE);
        looked.build(1, false, 0);
        C.due("found", looked.found(0, 0), 20003);
        looked.write(20, 504);
        looked.write(24, 5);
        looked.build(1, false, 1);
        C.due("cancelled again", looked.told(1 + CANCELLED), 1);
        C.due("as it was found by what was done", looked.found(0, 0), 20003);
        C.due("and no more", looked.found(0, 1), NONE);
        C.due("the content, too", looked.output(0), 503);

        Buildmill failing = Mills.withFiles();
        Mills.one(failing, Buildmill.CHECK, 6, 0);
        Mills.one(failing, JOIN, 1, 1);
        failing.work(0, 0, 2, false);
        failing.work(1, 1, 9, false);
        failing.build(3, false, 5);
        C.due("stopped, and then the limit", failing.became(1, 0), CANCELLED);
        C.due("its time", failing.told(0), 5);
        failing.work(0, 0, 4, false);
        failing.build(3, false, 2);
        C.due("warm, so it ends at the limit", failing.became(0, 2), 2);
        C.due("as a failure", failing.became(0, 0), FAILED);
        C.due("is the first", failing.failedFirst(), 0);
        failing.work(0, 0, 7, false);
        failing.work(1, 1, 4, false);
        failing.build(3, false, 4);
        C.due("warm, at the limit again", failing.became(0, 2), 4);
        C.due("what ends with it is not cancelled", failing.became(1, 0), RAN);
    }

    private static void figures() {
        C.sentence("Returns a number of the last build; all are 0 at first, and behind a build that found an error and did not go on.");
        Buildmill b = ranFar();
        int[] first = {12, 0, 0, 0, 1, 1, 0, 0, 0, 0, 0, 0};
        for (int what = 0; what < 12; what++) C.due("two in both ways, " + what, b.told(what), first[what]);
        b.write(0, 2);
        b.build(7, false, 4);
        int[] then = {4, 1, 0, 0, 0, 0, 0, 1, 1, 0, 0, 0};
        for (int what = 0; what < 12; what++) C.due("up to the limit 4, " + what, b.told(what), then[what]);
        b.lose(111);
        b.build(7, false, 999);
        int[] last = {10 + 3 + 10, 1, 0, 0, 2, 0, 0, 0, 0, 1, 0, 0};
        for (int what = 0; what < 12; what++) C.due("one again, " + what, b.told(what), last[what]);
        b.source(0, 40);
        b.build(1, false, 0);
        for (int what = 0; what < 12; what++) C.due("behind an error, " + what, b.told(what), 0);
        for (int what = 0; what < 12; what++) C.due("at first, " + what, new Buildmill().told(what), 0);
        C.noRange("12", () -> b.told(12));
        C.noRange("-1", () -> b.told(-1));
        oneOfEach();
        Buildmill unwanted = Mills.withRuns(3, 4, false);
        unwanted.build(7, false, 0);
        unwanted.build(2, false, 0);
        for (int what = 0; what < 12; what++) C.due("of the wanted ones alone, " + what, unwanted.told(what), what == 1 ? 1 : 0);

        C.sentence("11 how many runs that ended (done or failed) looked at more");
        Buildmill more = new Buildmill();
        more.pack(1, true);
        more.write(0, 536);
        Mills.one(more, Buildmill.INCLUDE, 0, 0);
        more.work(0, 0, 3, false);
        more.build(1, false, 2);
        C.due("cancelled: it has not ended", more.told(11), 0);
        more.build(1, false, 0);
        C.due("ended", more.told(11), 1);
        more.build(1, false, 0);
        C.due("no run", more.told(11), 0);
        more.work(0, 0, 20, true);
        more.write(0, 584);
        more.build(1, false, 0);
        C.due("in both ways one run ends", more.told(11), 1);
    }

    private static void oneOfEach() {
        C.sentence("1 + UP_TO_DATE to 1 + CANCELLED how many wanted actions became that");
        Buildmill b = Mills.withFiles();
        int[] numbers = {100, 200, 300, 400, 500, 6};
        for (int i = 0; i < 6; i++) Mills.one(b, i == 5 ? Buildmill.CHECK : JOIN, numbers[i], i == 5 ? 0 : i);
        Mills.of(b, JOIN, 0, 5);
        Mills.one(b, JOIN, 700, 7);
        becameWith(b, 2, 21, 2);
        becameWith(b, 2, 22, 2);
        b.forget(false);
        becameWith(b, 1, 11, 1);
        becameWith(b, 1, 12, 1);
        becameWith(b, 0, 1, 0);
        b.write(1, 11);
        b.write(2, 21);
        b.work(3, 0, 3, false);
        b.work(4, 0, 3, true);
        b.work(5, 1, 2, false);
        b.work(7, 2, 20, false);
        C.due("done", b.build(255, true, 6), 5);
        int[] due = {6, 1, 1, 1, 1, 1, 1, 1, 1, 0, 0, 0};
        for (int what = 0; what < 12; what++) C.due("one of each, " + what, b.told(what), due[what]);
        for (int target = 0; target < 8; target++) C.due("of target " + target, b.became(b.actionOf(target), 0), target);
    }

    private static void failedFirst() {
        C.sentence("Returns the action that failed first in the last build, of several at one time the one with the lowest number; NONE if none did.");
        C.due("at first", new Buildmill().failedFirst(), NONE);
        Buildmill b = Mills.withFiles();
        for (int i = 0; i < 3; i++) {
            Mills.one(b, Buildmill.CHECK, 6 - i, 0);
            b.write(i, 1 + i);
            b.drop(i);
            b.source(i, i);
            b.work(i, i, 4, false);
        }
        b.build(7, false, 0);
        C.due("all at one time", b.told(1 + FAILED), 3);
        C.due("the lowest", b.failedFirst(), 0);
        b.work(0, 0, 20, false);
        b.build(7, true, 0);
        C.due("the lowest of the two that are earlier", b.failedFirst(), 1);
        b.build(4, true, 0);
        C.due("of the last build", b.failedFirst(), 2);
        b.write(2, 0);
        b.build(4, true, 0);
        C.due("none", b.failedFirst(), NONE);
        b.build(1, true, 3);
        C.due("cancelled is not failed", b.failedFirst(), NONE);
    }

    private static void critical() {
        C.sentence("of its wanted actions that were done or failed the one that ended last, of several the one with the lowest number; then of the actions that are its inputs the one that ended last, likewise; and so on.");
        C.due("at first", new Buildmill().critical(0), NONE);
        Buildmill b = new Buildmill();
        b.target(0, JOIN, 0);
        for (int target = 1; target < 16; target++) Mills.of(b, JOIN, target, target - 1);
        b.build(1 << 15, false, 0);
        for (int place = 0; place < 16; place++) C.due("place " + place, b.critical(place), 15 - place);
        C.due("not so many", b.critical(16), NONE);
        b.build(1 << 15, false, 0);
        C.due("all at the time 0", b.critical(0), 0);
        C.due("which has no inputs", b.critical(1), NONE);
        C.noPlace("-1", () -> b.critical(-1));

        Buildmill equal = Mills.withRuns(4, 4, false);
        for (int kind = 0; kind < 3; kind++) equal.work(kind, kind, 4, false);
        equal.workers(0, 2);
        equal.work(3, 0, 1, false);
        Mills.of(equal, JOIN, 0, 1, 2, 3, 1);
        equal.build(16 | 4 | 1, false, 0);
        C.due("found first", equal.actionOf(2), 1);
        C.due("then the first item", equal.actionOf(1), 2);
        C.due("the last one", equal.critical(0), 4);
        C.due("of two inputs the lowest, though it is the second", equal.critical(1), 1);
        Buildmill cancelled = Mills.withRuns(2, 4, false);
        cancelled.work(1, 1, 3, false);
        cancelled.build(3, false, 3);
        C.due("a cancelled one does not count", cancelled.critical(0), 1);
        cancelled.write(1, 5);
        cancelled.build(3, false, 1);
        C.due("none was done", cancelled.critical(0), NONE);
    }

    // ---- tests

    private static void shards() {
        C.sentence("A target has 0 to 4 shards, none at first, and a luck of 0 to 9.");
        Buildmill b = new Buildmill();
        b.target(0, JOIN, 0);
        C.noState("none at first", () -> b.test(0));
        C.due("nothing was built", b.actions(), 0);
        for (int count = 1; count <= 4; count++) {
            b.shards(0, count, 0);
            C.due("with " + count, b.test(0), Math.min(count, 3));
            for (int k = 0; k < 4; k++) {
                int due = k >= count ? NONE : k == 3 ? Buildmill.BROKEN : Buildmill.PASSED;
                C.due("shard " + k + " of " + count, b.shard(0, k), due);
            }
        }
        b.shards(0, 0, 0);
        C.noState("none again", () -> b.test(0));
        C.noRange("5 shards", () -> b.shards(0, 5, 0));
        C.noRange("-1 shards", () -> b.shards(0, -1, 0));
        C.noRange("luck 10", () -> b.shards(0, 1, 10));
        C.noRange("luck -1", () -> b.shards(0, 1, -1));
        C.noState("none still", () -> b.test(0));

        C.sentence("The shard k is sound, if the content of the target and k, added, leave a remainder by 4 that is not 3.");
        for (int content : new int[] {0, 1, 2, 3, 4, 996, 997, 998, 999}) {
            Buildmill each = new Buildmill();
            each.target(0, JOIN, content);
            each.shards(0, 4, 0);
            C.due("three of four, content " + content, each.test(0), 3);
            for (int k = 0; k < 4; k++) {
                C.due("content " + content + ", shard " + k, each.shard(0, k), (content + k) % 4 == 3 ? Buildmill.BROKEN : Buildmill.PASSED);
            }
        }
    }

    private static void shardsThatStay() {
        C.sentence("if it is then done, its shards are gone through, otherwise no try is made, and what became of shards stays.");
        Buildmill b = Mills.withFiles();
        Mills.one(b, Buildmill.CHECK, 3, 0);
        b.shards(0, 2, 0);
        for (int k = 0; k < 4; k++) C.due("not yet", b.shard(0, k), NONE);
        b.write(0, 4);
        C.due("failing", b.test(0), NONE);
        C.due("no try", b.tries(), 0);
        for (int k = 0; k < 4; k++) C.due("still none", b.shard(0, k), NONE);
        b.write(0, 5);
        C.due("done: 3 and 4", b.test(0), 1);
        C.due("two tries", b.tries(), 2);
        b.write(0, 4);
        C.due("failing again", b.test(0), NONE);
        C.due("no try again", b.tries(), 0);
        C.due("what became stays", b.shard(0, 0), Buildmill.BROKEN);
        C.due("what passed, too", b.shard(0, 1), Buildmill.PASSED);
        b.erase(0);
        C.due("in error", b.test(0), NONE);
        C.due("stays", b.shard(0, 1), Buildmill.PASSED);
        b.write(0, 5);
        b.build(1, false, 0);
        C.due("up to date is done", b.test(0), 1);
        C.due("and that is a build, too", b.told(1), 1);
        C.noPlace("shard 4", () -> b.shard(0, 4));
        C.noPlace("shard -1", () -> b.shard(0, -1));
    }

    private static void luckless() {
        C.sentence("With the luck 0 a shard has PASSED if it is sound, and has BROKEN otherwise; this is kept for the target, the content and the shard, and not tried again.");
        Buildmill b = new Buildmill();
        b.target(0, JOIN, 0);
        b.numberFrom(0, 0, 0);
        b.shards(0, 4, 0);
        int[] contents = {0, 1, 999, 500, 15, 16, 63, 64, 996, 997, 998};
        for (int content : contents) {
            b.state(0, Buildmill.SET, 0, content, 0);
            b.test(0);
            C.due("four new ones of " + content, b.tries(), 4);
            b.unstate(0, 0);
        }
        for (int content : contents) {
            b.state(0, Buildmill.SET, 0, content, 0);
            C.due("three of four of " + content, b.test(0), 3);
            C.due("not tried again, of " + content, b.tries(), 0);
            b.unstate(0, 0);
        }
        Buildmill two = new Buildmill();
        two.target(0, JOIN, 2);
        two.target(0, JOIN, 2);
        two.shards(0, 1, 0);
        two.shards(1, 1, 0);
        two.test(0);
        C.due("for the target", two.test(1) == 1 && two.tries() == 1, true);
        two.shards(0, 2, 0);
        two.test(0);
        C.due("for the shard", two.tries(), 1);
        two.shards(0, 2, 1);
        two.test(0);
        C.due("with another luck it is tried", two.tries() > 1, true);
        two.shards(0, 2, 0);
        two.test(0);
        C.due("and is kept still", two.tries(), 0);
        C.due("BROKEN", two.shard(0, 1), Buildmill.BROKEN);
    }

    /** Tries and fates of one shard by the draws 8, 8, 3, 5, 1, 7, 0, 9, 2, 6 from the seed 1. */
    private static void threeTries() {
        C.sentence("With another luck it is tried up to three times, until it is good: at each try there is a draw from 0 to 9, and it is good, if the draw is not below the luck, and the shard is sound.");
        int[] fate = {Buildmill.PASSED, Buildmill.FLAKY, Buildmill.BROKEN};
        int[] draws = {8, 8, 3, 5, 1, 7, 0, 9, 2, 6};
        long seed = 1;
        for (int skipped = 0; skipped < 8; skipped++) {
            for (int luck = 1; luck < 10; luck++) {
                Buildmill b = new Buildmill();
                b.target(0, JOIN, 0);
                b.seed((int) seed);
                b.shards(0, 1, luck);
                int passed = b.test(0);
                int tries = 1;
                while (tries < 4 && draws[skipped + tries - 1] < luck) tries++;
                C.due("tries behind " + skipped + " with the luck " + luck, b.tries(), Math.min(tries, 3));
                C.due("fate behind " + skipped + " with the luck " + luck, b.shard(0, 0), fate[tries == 1 ? 0 : tries < 4 ? 1 : 2]);
                C.due("passed behind " + skipped + " with the luck " + luck, passed, tries == 1 ? 1 : 0);
            }
            seed = (seed * 1103515245L + 12345L) % 2147483648L;
        }
        Buildmill unsound = new Buildmill();
        unsound.target(0, JOIN, 3);
        unsound.shards(0, 1, 1);
        C.due("not sound", unsound.test(0), 0);
        C.due("three tries", unsound.tries(), 3);
        C.due("is BROKEN", unsound.shard(0, 0), Buildmill.BROKEN);
        unsound.test(0);
        C.due("nothing of that is kept", unsound.tries(), 3);
    }

    private static void draws() {
        C.sentence("For a draw the seed becomes its 1103515245-fold and 12345, added, modulo 2147483648; the draw is the seed divided by 65536 (rounded down), modulo 10. The seed is 1 at first.");
        int[] seeds = {0, 1, 2, 12345, 65535, 65536, 1073741823, 1073741824, 2147483646, 2147483647};
        for (int seed : seeds) {
            long next = (seed * 1103515245L + 12345L) % 2147483648L;
            long draw = next / 65536 % 10;
            for (int luck = 1; luck < 10; luck++) {
                Buildmill b = new Buildmill();
                b.target(0, JOIN, 0);
                b.shards(0, 1, luck);
                b.seed(seed);
                C.due("seed " + seed + ", luck " + luck, b.test(0), draw >= luck ? 1 : 0);
            }
        }
        int edges = 0;
        long state = 1;
        for (int i = 0; i < 100000 && edges < 40; i++) {
            state = (state * 1103515245L + 12345L) % 2147483648L;
            long next = (state * 1103515245L + 12345L) % 2147483648L;
            boolean isEdge = next / 65536 != next / 65537 || next % 65536 == 0 || next % 65536 == 65535;
            int draw = (int) (next / 65536 % 10);
            if (!isEdge || draw == 0) continue;
            edges++;
            Buildmill b = new Buildmill();
            b.target(0, JOIN, 0);
            b.shards(0, 1, draw);
            b.seed((int) state);
            C.due("good by " + draw + " from " + state, b.test(0), 1);
            if (draw == 9) continue;
            b.shards(0, 1, draw + 1);
            b.seed((int) state);
            C.due("not good by " + draw + " from " + state, b.test(0), 0);
        }
        C.sentence("The seed is 1 at first.");
        int[] draws = {8, 8, 3, 5, 1, 7, 0, 9, 2, 6};
        for (int luck = 1; luck < 10; luck++) {
            Buildmill fresh = new Buildmill();
            for (int target = 0; target < 3; target++) {
                fresh.target(0, JOIN, 4 * target);
                fresh.shards(target, 1, luck);
            }
            int drawn = 0;
            for (int target = 0; target < 3; target++) {
                int tries = 1;
                while (tries < 3 && draws[drawn + tries - 1] < luck) tries++;
                C.due("passed with the luck " + luck, fresh.test(target), draws[drawn] >= luck ? 1 : 0);
                C.due("tries with the luck " + luck, fresh.tries(), tries);
                drawn += tries;
            }
        }
        Buildmill b = new Buildmill();
        C.noRange("seed -1", () -> b.seed(-1));
        C.noRange("the lowest seed", () -> b.seed(Integer.MIN_VALUE));
    }

    // ---- queries

    private static void ways() {
        C.sentence("Returns a target on the shortest way from a target down to another one, of several the one whose first target that differs has the lower number.");
        Buildmill b = new Buildmill();
        b.target(0, JOIN, 0);
        for (int target = 1; target < 16; target++) Mills.of(b, JOIN, 0, target - 1);
        for (int target = 0; target < 16; target++) {
            for (int place = 0; place <= 15; place++) {
                C.due("from 15 to " + target + ", place " + place, b.someWay(15, target, place), place <= 15 - target ? 15 - place : NONE);
            }
        }
        C.due("the same one", b.someWay(0, 0, 0), 0);
        C.due("has no more", b.someWay(0, 0, 1), NONE);
        C.due("not up", b.someWay(0, 15, 0), NONE);
        Buildmill ties = new Buildmill();
        Mills.of(ties, JOIN, 0);
        for (int i = 0; i < 3; i++) Mills.of(ties, JOIN, 0, 0);
        Mills.of(ties, JOIN, 0, 3, 2);
        Mills.of(ties, JOIN, 0, 1);
        Mills.of(ties, JOIN, 0, 5, 4);
        int[] due = {6, 4, 2, 0, NONE};
        for (int place = 0; place < due.length; place++) C.due("place " + place, ties.someWay(6, 0, place), due[place]);
        C.due("no way", ties.someWay(5, 4, 0), NONE);
        Buildmill shorter = new Buildmill();
        Mills.of(shorter, JOIN, 0);
        Mills.of(shorter, JOIN, 0, 0);
        Mills.of(shorter, JOIN, 0, 1);
        Mills.of(shorter, JOIN, 0, 0);
        Mills.of(shorter, JOIN, 0, 2, 3);
        int[] by = {4, 3, 0, NONE};
        for (int place = 0; place < by.length; place++) C.due("shorter by one, place " + place, shorter.someWay(4, 0, place), by[place]);
        Buildmill alone = new Buildmill();
        for (int target = 0; target < 16; target++) {
            alone.target(0, JOIN, 0);
            for (int i = 0; i < 4; i++) alone.source(target, target * 5 % 44 + i);
            alone.glob(target, target % 2 == 0 ? 0 : 1 << target / 2, target % 4 > 1);
            alone.glob(target, 255, true);
        }
        for (int target = 0; target < 16; target++) {
            C.due("paths are no way", alone.above(target), 1 << target);
            C.due("not from the last one", alone.allWays(15, target), target == 15 ? 1 << 15 : 0);
            C.due("nor some", alone.someWay(15, target, 0), target == 15 ? 15 : NONE);
        }
        Buildmill six = new Buildmill();
        for (int target = 0; target < 6; target++) six.target(0, JOIN, 0);
        six.target(5, JOIN, 0);
        for (int target = 0; target < 6; target++) six.depend(6, target);
        six.transit(6, 1, 2);
        for (int target = 0; target < 6; target++) {
            C.due("by each item, though it is in error", six.someWay(6, target, 1), target);
            C.due("by no other one", six.allWays(6, target), 1 << 6 | 1 << target);
            C.due("above each item", six.above(target), 1 << 6 | 1 << target);
        }

        C.sentence("Returns the targets, as bits, both included; 0 if there is no way.");
        C.due("all", b.allWays(15, 0), 65535);
        C.due("itself", b.allWays(15, 15), 1 << 15);
        C.due("0 itself", b.allWays(0, 0), 1);
        C.due("not up", b.allWays(0, 15), 0);
        C.due("without what is aside", ties.allWays(4, 0), 16 + 8 + 4 + 1);
        C.due("no way", ties.allWays(5, 4), 0);

        C.sentence("Returns these, as bits, the target itself included.");
        C.due("all", b.above(0), 65535);
        C.due("the last one", b.above(15), 1 << 15);
        C.due("some", ties.above(1), 2 + 32 + 64);
        b.drop(8);
        C.due("no way any more", b.above(7), 1 << 7);
        C.due("and above it", b.above(8), 65535 - 255);
        C.due("for ways, too", b.allWays(15, 7), 0);
        C.due("none", b.someWay(8, 7, 0), NONE);
    }
}
