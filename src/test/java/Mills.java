/** Objects that several tests begin with, and short ways to add targets to them. */
final class Mills {
    private Mills() {
    }

    /** An object with the files 0 to 7 in the directory 0, the path p having the content 10 * p + 1. */
    static Buildmill withFiles() {
        Buildmill b = new Buildmill();
        for (int path = 0; path < 8; path++) b.write(path, 10 * path + 1);
        return b;
    }

    /** An object with a file of one content at every path. */
    static Buildmill full(int content) {
        Buildmill b = new Buildmill();
        for (int path = 0; path < 48; path++) b.write(path, content);
        return b;
    }

    /** Adds a target in the directory 0 with paths. */
    static int one(Buildmill b, int operation, int number, int... paths) {
        int target = b.target(0, operation, number);
        for (int path : paths) b.source(target, path);
        return target;
    }

    /** Adds a target in the directory 0 with other targets. */
    static int of(Buildmill b, int operation, int number, int... others) {
        int target = b.target(0, operation, number);
        for (int other : others) b.depend(target, other);
        return target;
    }

    /** Targets with a path each, the number 100 and one duration, run by the kind 0. */
    static Buildmill withRuns(int many, int duration, boolean isBoth) {
        Buildmill b = withFiles();
        for (int i = 0; i < many; i++) {
            one(b, Buildmill.JOIN, 100, i);
            b.work(i, 0, duration, isBoth);
        }
        return b;
    }

    static int timeOf(Buildmill b, int targets) {
        b.build(targets, true, 0);
        return b.told(0);
    }
}
