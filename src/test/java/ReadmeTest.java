import java.io.IOException;
import java.nio.file.Files;
import java.nio.file.Path;
import java.util.List;

/** README.md's example stands there as it is played here, and each call answers what is told beside it. */
public final class ReadmeTest {
    private final Expect expect = new Expect();
    private final RaidVault vault = new RaidVault();
    private final List<String> lines;
    private int next;

    private ReadmeTest(List<String> lines) {
        this.lines = lines;
        next = lines.indexOf("RaidVault vault = new RaidVault();") + 1;
    }

    public static void main(String[] args) throws IOException {
        new ReadmeTest(Files.readAllLines(Path.of("README.md"))).play();
    }

    private void play() {
        expect.same("the example is there", next > 0 ? 1 : 0, 1);
        answers("vault.write(3, 0, 0x48656C6C6F212121L);", "8:", 8, () -> vault.write(3, 0, 0x48656C6C6F212121L));
        answers("vault.snapshot(0);", "makes a point", 0, Expect.asCall(() -> vault.snapshot(0)));
        expect.same("the point of the snapshot", vault.count(0), 1);
        answers("vault.cut(3, 5);", "", 0, Expect.asCall(() -> vault.cut(3, 5)));
        answers("vault.fail(1);", "reads go on", 0, Expect.asCall(() -> vault.fail(1)));
        answers("vault.octet(-1, 3, 4);", "0x6F", 0x6F, () -> vault.octet(-1, 3, 4));
        answers("vault.size(0, 3);", "8,", 8, () -> vault.size(0, 3));
        answers("vault.replace();", "", 0, Expect.asCall(() -> vault.replace()));
        answers("vault.rebuild(150);", "150:", 150, () -> vault.rebuild(150));
        expect.same("the disk that is not sound", vault.count(4), -1);
        answers("vault.crash(0, true);", "false:", 0, () -> vault.crash(0, true) ? 1 : 0);
        answers("vault.size(-1, 3);", "5:", 5, () -> vault.size(-1, 3));
        expect.same("the example ends", line(), "```");
        expect.end();
    }

    private void answers(String code, String told, long want, Expect.Call call) {
        String line = line();
        int comment = line.indexOf("//");
        expect.same("README.md's line", comment < 0 ? line : line.substring(0, comment).strip(), code);
        String beside = comment < 0 ? "" : line.substring(comment + 2).strip();
        expect.same("what is told beside " + code, beside.startsWith(told) ? told : beside, told);
        expect.answers(code, want, call);
    }

    private String line() {
        return next < lines.size() ? lines.get(next++) : "";
    }
}
