import java.util.ArrayList;
import java.util.List;
import java.util.function.LongSupplier;

/**
 * What an object answers to some 250 calls, by which nearly all that it holds comes to light. The object
 * is used up by that: the last of these calls change it.
 */
final class Answers {
    private final Buildmill b;
    private final List<String> told = new ArrayList<>();

    private Answers(Buildmill b) {
        this.b = b;
    }

    static List<String> of(Buildmill b) {
        Answers answers = new Answers(b);
        answers.lastBuild();
        answers.targets();
        answers.rules();
        answers.nextBuild();
        answers.whatWasBefore();
        return answers.told;
    }

    private void ask(String what, LongSupplier call) {
        String answer;
        try {
            answer = String.valueOf(call.getAsLong());
        } catch (RuntimeException e) {
            answer = e.getClass().getName();
        }
        told.add(what + " " + answer);
    }

    private static long bit(boolean is) {
        return is ? 1 : 0;
    }

    private void lastBuild() {
        for (int i = 0; i < 12; i++) {
            int what = i;
            ask("told " + i, () -> b.told(what));
        }
        ask("failedFirst", b::failedFirst);
        ask("tries", b::tries);
        ask("actions", b::actions);
        ask("near entries", () -> b.entries(false));
        ask("far entries", () -> b.entries(true));
        for (int i = 0; i < 3; i++) {
            int place = i;
            ask("critical " + i, () -> b.critical(place));
        }
        for (int i = 0; i < 5; i++) {
            int action = i;
            for (int what = 0; what < 3; what++) {
                int which = what;
                ask("became " + i + " " + what, () -> b.became(action, which));
            }
            ask("input " + i, () -> b.input(action, 1));
            ask("found " + i, () -> b.found(action, 0));
        }
    }

    private void targets() {
        for (int target : new int[] {0, 1, 2, 3, 15}) {
            ask("targetError " + target, () -> b.targetError(target, 0));
            ask("actionOf " + target, () -> b.actionOf(target));
            ask("output " + target, () -> b.output(target));
            ask("outputFromNothing " + target, () -> b.outputFromNothing(target));
            ask("shard 0 of " + target, () -> b.shard(target, 0));
            ask("shard 3 of " + target, () -> b.shard(target, 3));
            ask("above " + target, () -> b.above(target));
        }
    }

    private void rules() {
        for (int i = 0; i < 6; i++) {
            int file = i;
            ask("value " + i, () -> b.value(file, 0));
            ask("listAt " + i, () -> b.listAt(file, 1, 0));
            ask("ruleFailure " + i, () -> b.ruleFailure(file, 0));
            ask("packageOf " + i, () -> b.packageOf(8 * file));
        }
        ask("globbed", () -> b.globbed(0, 255, true));
    }

    /** Shows the bytes, the latency, what is warm, how targets are run, and the seed. */
    private void nextBuild() {
        ask("write", () -> b.write(0, 17));
        ask("build", () -> b.build(3, true, 0));
        for (int what : new int[] {0, 1, 2, 3, 4, 5, 9, 10}) ask("then told " + what, () -> b.told(what));
        ask("build all", () -> b.build(15, true, 0));
        for (int i = 0; i < 5; i++) {
            int action = i;
            ask("then ended " + i, () -> b.became(action, 2));
        }
        for (int target : new int[] {0, 1}) {
            ask("test " + target, () -> b.test(target));
            ask("tries of " + target, b::tries);
            ask("shard 1 of " + target, () -> b.shard(target, 1));
        }
    }

    private void whatWasBefore() {
        for (int i = 0; i < 4; i++) {
            int which = i;
            ask("setting " + i, () -> b.setting(which, 0));
            ask("uses " + i, () -> b.uses(which, 1));
            ask("choose " + i, () -> b.choose(which, 0, 0, 0));
            ask("drop " + i, () -> b.drop(which));
        }
        ask("sandbox", () -> bit(b.sandbox(true)));
        ask("far", () -> bit(b.far(true, 2)));
        for (int i = 0; i < 3; i++) {
            int kind = i;
            ask("workers " + i, () -> b.workers(kind, 1));
        }
        for (int content : new int[] {0, 101, 111, 999}) ask("lose " + content, () -> bit(b.lose(content)));
        for (int i = 0; i < 6; i++) {
            int file = i;
            ask("unstate " + i, () -> b.unstate(file, 0));
            ask("state " + i, () -> b.state(file, Buildmill.SET, 0, 0, 0));
        }
        ask("toolchain", () -> b.toolchain(0, -1, 0, 0));
        ask("untool", () -> b.untool(0));
        for (int i = 0; i < 12; i++) {
            int path = i * 4 + i % 4;
            ask("erase " + path, () -> b.erase(path));
        }
        ask("target", () -> b.target(0, 0, 0));
        ask("forget near", () -> b.forget(false));
        ask("forget far", () -> b.forget(true));
    }
}
