/** Promise 11: crash. */
public final class CrashTest {
    private CrashTest() {
    }

    public static void main(String[] args) {
        Expect expect = new Expect();
        eachWriting(expect);
        logStays(expect);
        logGoes(expect);
        nothingToWrite(expect);
        unchangedFiles(expect);
        redoneInOrder(expect);
        oldStateStays(expect);
        whenBroken(expect);
        expect.end();
    }

    private static void crash(Expect expect, RaidVault vault, int n, boolean log, boolean made) {
        expect.answers("crash(" + n + ", " + log + ")", made ? 1 : 0, () -> vault.crash(n, log) ? 1 : 0);
    }

    /** What each WRITING of a POINT brings, one more with each CRASH; the LOG makes it possible. */
    private static void eachWriting(Expect expect) {
        RaidVault vault = new RaidVault();
        vault.write(0, 0, 10L);
        vault.write(16, 0, 11L);
        int writings = 0;
        for (int n = 0; n < 7; n++) {
            crash(expect, vault, n, true, false);
            writings += n;
            Layout.counts(expect, "behind " + n + " WRITINGS", vault, 0, 599, 2, writings, -1, 150, 0, 2);
            Layout.words(expect, vault, 1, n >= 1 ? 10L : 0L);
            Layout.numbers(expect, vault, 2, n >= 2 ? 8 : 0, n >= 2 ? 1 : 0);
            Layout.words(expect, vault, 3, n >= 3 ? 11L : 0L);
            Layout.numbers(expect, vault, 4, n >= 4 ? 8 : 0, n >= 4 ? 3 : 0);
            Layout.numbers(expect, vault, 5, n >= 5 ? 2 : 0);
            Layout.numbers(expect, vault, 6, n >= 6 ? 4 : 0);
            Layout.numbers(expect, vault, 0);
            Layout.parity(expect, "behind " + n + " WRITINGS", vault);
        }
        crash(expect, vault, 7, true, true);
        Layout.numbers(expect, vault, 0, 0, 1, 5, 6);
        Layout.counts(expect, "behind all WRITINGS", vault, 1, 593, 0, writings + 7, -1, 150, 0, 2);
        expect.answers("octet", 11, () -> vault.octet(-1, 16, 7));
    }

    private static void logStays(Expect expect) {
        RaidVault vault = new RaidVault();
        Layout.grow(vault, 3, 0, 6);
        vault.point();
        vault.cut(3, 33);
        vault.write(3, 33, -1L);
        vault.write(4, 0, 9L);
        vault.remove(4);
        vault.write(5, 0, 5L);
        crash(expect, vault, 2, true, false);
        expect.same("entries", vault.count(2), 5);
        expect.same("FILES", vault.count(7), 2);
        expect.answers("size", 41, () -> vault.size(-1, 3));
        expect.answers("octet before the cut", Layout.octet(3, 32), () -> vault.octet(-1, 3, 32));
        expect.answers("octet behind the cut", 255, () -> vault.octet(-1, 3, 40));
        expect.answers("FILE 4", -1, () -> vault.size(-1, 4));
        expect.answers("a POINT has it all", 2, vault::point);
        expect.same("WRITINGS: 5, 2, and two FILES' with one half", vault.count(3), 5 + 2 + 6);
        crash(expect, vault, 0, false, false);
        expect.answers("size from the DISKS", 41, () -> vault.size(-1, 3));
        expect.answers("FILE 5 from the DISKS", 5, () -> vault.octet(-1, 5, 7));
    }

    private static void logGoes(Expect expect) {
        RaidVault vault = new RaidVault();
        vault.write(3, 0, 1L);
        vault.point();
        vault.write(3, 8, 2L);
        vault.write(9, 0, 3L);
        crash(expect, vault, 3, false, false);
        Layout.counts(expect, "without the LOG", vault, 1, 596, 0, 4 + 3, -1, 150, 0, 1);
        expect.answers("size as in the POINT", 8, () -> vault.size(-1, 3));
        expect.answers("no FILE 9", -1, () -> vault.size(-1, 9));
        expect.answers("nothing is changed any more", 2, vault::point);
        expect.same("so INFO alone is written", vault.count(3), 4 + 3 + 1);
        vault.write(9, 0, 3L);
        crash(expect, vault, 4, false, true);
        expect.answers("a POINT that was made stays without the LOG", 3, () -> vault.octet(-1, 9, 7));
    }

    private static void nothingToWrite(Expect expect) {
        RaidVault vault = new RaidVault();
        expect.argument("n -1", () -> vault.crash(-1, true) ? 1 : 0);
        expect.argument("the least n", () -> vault.crash(Integer.MIN_VALUE, false) ? 1 : 0);
        crash(expect, vault, 0, true, false);
        expect.same("number behind no WRITING", vault.count(0), 0);
        crash(expect, vault, 1, true, true);
        crash(expect, vault, Integer.MAX_VALUE, false, true);
        Layout.counts(expect, "behind two POINTS", vault, 2, 599, 0, 2, -1, 150, 0, 0);
    }

    private static void unchangedFiles(Expect expect) {
        RaidVault vault = new RaidVault();
        Layout.grow(vault, 1, 0, 6);
        vault.write(2, 0, 2L);
        vault.point();
        crash(expect, vault, 0, false, false);
        vault.write(2, 0, 5L);
        vault.point();
        crash(expect, vault, 0, false, false);
        vault.write(1, 40, 4L);
        vault.point();
        crash(expect, vault, 0, false, false);
        expect.answers("a FILE beside the one that was changed", 48, () -> vault.size(-1, 1));
        expect.answers("a PIECE that was not written", Layout.octet(1, 7), () -> vault.octet(-1, 1, 7));
        expect.answers("a PIECE that was written", 4, () -> vault.octet(-1, 1, 47));
        expect.answers("the FILE that was changed", 5, () -> vault.octet(-1, 2, 7));
    }

    private static void redoneInOrder(Expect expect) {
        RaidVault vault = new RaidVault();
        for (int i = 0; i < 40; i++) {
            vault.write(i % 3, 0, i);
        }
        crash(expect, vault, 4, true, false);
        expect.same("entries", vault.count(2), 40);
        for (int file = 0; file < 3; file++) {
            int due = file == 0 ? 39 : 36 + file;
            int f = file;
            expect.answers("the latest write of FILE " + f, due, () -> vault.octet(-1, f, 7));
        }
        vault.write(0, 8, 1L);
        expect.same("a POINT was made before the 41st", vault.count(0), 1);
        expect.same("entries behind it", vault.count(2), 1);
    }

    /** No WRITING of a POINT that is not made harms the one before it, or a SNAPSHOT. */
    private static void oldStateStays(Expect expect) {
        RaidVault vault = new RaidVault();
        Layout.grow(vault, 0, 0, 10);
        vault.snapshot(0);
        vault.cut(0, 64);
        vault.point();
        for (int n = 0; n < 8; n++) {
            for (int i = 0; i < 8; i++) {
                vault.write(0, 8 * i, -1L);
            }
            vault.write(17, 0, -1L);
            crash(expect, vault, n, false, false);
            for (int at = 0; at < 80; at++) {
                int due = Layout.octet(0, at);
                expect.same("octet of the SNAPSHOT", vault.octet(0, 0, at), due);
                if (at < 64) {
                    expect.same("octet of the POINT", vault.octet(-1, 0, at), due);
                }
            }
        }
    }

    private static void whenBroken(Expect expect) {
        RaidVault vault = Layout.broken();
        expect.state("crash", () -> vault.crash(0, true) ? 1 : 0);
        expect.argument("crash with a wrong argument", () -> vault.crash(-1, true) ? 1 : 0);
    }
}
