import java.util.ArrayList;
import java.util.List;

/**
 * Compares the states that two runs of calls lead to, by all that can be asked. No object answers more
 * than the document promises for: the run is played again for every hundred questions.
 */
final class Twins {
    private record Question(String told, Ask ask) {
    }

    private interface Ask {
        long of(RaidVault vault);
    }

    private static final int AT_ONCE = 100;
    private static final List<Question> QUESTIONS = questions();

    /** What does not show at once shows behind one of these: in the LOG, or in what a POINT writes. */
    private static final Scene[] LATER = {vault -> { }, vault -> vault.crash(0, true), RaidVault::point};

    /** Each is asked of an object of its own, as it changes what it is asked of. */
    private static final List<Question> CALLS = List.of(
            new Question("point", RaidVault::point),
            new Question("crash", vault -> vault.crash(2, true) ? 1 : 0),
            new Question("rebuild", vault -> vault.rebuild(1)),
            new Question("replace", vault -> asked(vault, RaidVault::replace)),
            new Question("fail", vault -> asked(vault, v -> v.fail(2))),
            new Question("write", vault -> vault.write(0, 0, 1L)),
            new Question("remove", vault -> asked(vault, v -> v.remove(0))),
            new Question("snapshot", vault -> asked(vault, v -> v.snapshot(0))),
            new Question("drop", vault -> asked(vault, v -> v.drop(1))));

    private Twins() {
    }

    static void same(Expect expect, String what, Scene one, Scene other) {
        for (Scene later : LATER) {
            Scene oneLater = one.then(evenIfRefused(later));
            Scene otherLater = other.then(evenIfRefused(later));
            compare(expect, what, QUESTIONS, oneLater, otherLater);
            compare(expect, what, octets(otherLater), oneLater, otherLater);
        }
        for (Question call : CALLS) {
            compare(expect, what, List.of(call), one, other);
        }
    }

    static void refused(Expect expect, Class<?> due, String what, Scene scene, Scene call) {
        RaidVault vault = scene.made();
        String got = Expect.outcome(Expect.asCall(() -> call.play(vault)));
        expect.same(what, got, due.getName());
        same(expect, "behind the refused call of " + what, scene.then(evenIfRefused(call)), scene);
    }

    private static long asked(RaidVault vault, Scene call) {
        call.play(vault);
        return 0;
    }

    private static Scene evenIfRefused(Scene call) {
        return vault -> Expect.outcome(Expect.asCall(() -> call.play(vault)));
    }

    private static void compare(Expect expect, String what, List<Question> questions, Scene one, Scene other) {
        for (int start = 0; start < questions.size(); start += AT_ONCE) {
            RaidVault oneVault = one.made();
            RaidVault otherVault = other.made();
            for (Question question : questions.subList(start, Math.min(start + AT_ONCE, questions.size()))) {
                String got = Expect.outcome(() -> question.ask.of(oneVault));
                String due = Expect.outcome(() -> question.ask.of(otherVault));
                expect.same(question.told + " " + what, got, due);
            }
        }
    }

    private static List<Question> questions() {
        List<Question> questions = new ArrayList<>();
        for (int i = 0; i < 8; i++) {
            int what = i;
            questions.add(new Question("count(" + what + ")", vault -> vault.count(what)));
        }
        for (int i = 0; i < 6 * 32; i++) {
            int k = i / 32 - 1;
            int file = i % 32;
            questions.add(new Question("size(" + k + ", " + file + ")", vault -> vault.size(k, file)));
        }
        for (int i = 0; i < 5 * 150 * 4; i++) {
            int disk = i / 600;
            int block = i % 600 / 4;
            int word = i % 4;
            questions.add(new Question("block(" + disk + ", " + block + ", " + word + ")", vault -> vault.block(disk, block, word)));
        }
        return questions;
    }

    /** Those of SNAPSHOTS stand in the BLOCKS. */
    private static List<Question> octets(Scene scene) {
        List<Question> questions = new ArrayList<>();
        RaidVault vault = scene.made();
        for (int i = 0; i < 32 && vault.count(6) == 0; i++) {
            int file = i;
            int size = vault.size(-1, file);
            for (int j = 0; j < size; j++) {
                int at = j;
                questions.add(new Question("octet(-1, " + file + ", " + at + ")", v -> v.octet(-1, file, at)));
            }
        }
        return questions;
    }
}
