/** Promises 3 to 7: write, cut, remove, size and octet. */
public final class FilesTest {
    private FilesTest() {
    }

    public static void main(String[] args) {
        Expect expect = new Expect();
        writes(expect);
        writeEdges(expect);
        longest(expect);
        cuts(expect);
        removes(expect);
        reads(expect);
        whenBroken(expect);
        expect.end();
    }

    private static void octets(Expect expect, RaidVault vault, int file, int... want) {
        expect.answers("size of FILE " + file, want.length, () -> vault.size(-1, file));
        for (int i = 0; i < want.length; i++) {
            int at = i;
            expect.answers("octet " + at + " of FILE " + file, want[i], () -> vault.octet(-1, file, at));
        }
        expect.outside("octet behind FILE " + file, () -> vault.octet(-1, file, want.length));
    }

    private static void writes(Expect expect) {
        RaidVault vault = new RaidVault();
        expect.answers("write of a FILE that is none", 8, () -> vault.write(0, 0, 0x0102030405060708L));
        octets(expect, vault, 0, 1, 2, 3, 4, 5, 6, 7, 8);
        expect.answers("write in the middle", 11, () -> vault.write(0, 3, 0xFFFEFDFCFBFAF9F8L));
        octets(expect, vault, 0, 1, 2, 3, 255, 254, 253, 252, 251, 250, 249, 248);
        expect.answers("write that makes it no longer", 11, () -> vault.write(0, 1, 0L));
        octets(expect, vault, 0, 1, 0, 0, 0, 0, 0, 0, 0, 0, 249, 248);
        expect.answers("write at the end", 19, () -> vault.write(0, 11, 0x8000000000000001L));
        octets(expect, vault, 0, 1, 0, 0, 0, 0, 0, 0, 0, 0, 249, 248, 128, 0, 0, 0, 0, 0, 0, 1);
        expect.same("entries of the LOG", vault.count(2), 4);
        expect.same("FILES", vault.count(7), 1);
        expect.same("WRITINGS before a POINT", vault.count(3), 0);
    }

    private static void writeEdges(Expect expect) {
        RaidVault vault = new RaidVault();
        expect.argument("file -1", () -> vault.write(-1, 0, 0L));
        expect.argument("file 32", () -> vault.write(32, 0, 0L));
        expect.argument("the least file", () -> vault.write(Integer.MIN_VALUE, 0, 0L));
        expect.argument("the greatest file", () -> vault.write(Integer.MAX_VALUE, 0, 0L));
        expect.argument("at -1", () -> vault.write(0, -1, 0L));
        expect.argument("at 1 of none", () -> vault.write(0, 1, 0L));
        expect.argument("the greatest at", () -> vault.write(0, Integer.MAX_VALUE, 0L));
        expect.argument("the least at", () -> vault.write(0, Integer.MIN_VALUE, 0L));
        Layout.counts(expect, "behind wrong writes", vault, 0, 599, 0, 0, -1, 150, 0, 0);
        expect.answers("file 31", 8, () -> vault.write(31, 0, 0L));
        expect.argument("at 9 of 8", () -> vault.write(31, 9, 0L));
        expect.answers("at 8 of 8", 16, () -> vault.write(31, 8, 0L));
        expect.same("entries of the LOG", vault.count(2), 2);
    }

    private static void longest(Expect expect) {
        RaidVault vault = new RaidVault();
        Layout.grow(vault, 7, 0, 55);
        expect.answers("at 433 of 440", 441, () -> vault.write(7, 433, -1L));
        expect.argument("at 441 of 441", () -> vault.write(7, 441, 0L));
        expect.answers("at 440 of 441", 448, () -> vault.write(7, 440, 5L));
        expect.argument("at 441 of 448", () -> vault.write(7, 441, 0L));
        expect.argument("at 448 of 448", () -> vault.write(7, 448, 0L));
        expect.answers("the last octet", 5, () -> vault.octet(-1, 7, 447));
        expect.outside("octet 448", () -> vault.octet(-1, 7, 448));
        expect.answers("a size of 448", 448, () -> vault.size(-1, 7));
    }

    private static void cuts(Expect expect) {
        RaidVault vault = new RaidVault();
        expect.argument("cut of none", () -> vault.cut(0, 0));
        expect.argument("cut of file -1", () -> vault.cut(-1, 0));
        expect.argument("cut of file 32", () -> vault.cut(32, 0));
        vault.write(0, 0, 0x0102030405060708L);
        expect.argument("cut to 9 of 8", () -> vault.cut(0, 9));
        expect.argument("cut to -1", () -> vault.cut(0, -1));
        expect.argument("cut to the least", () -> vault.cut(0, Integer.MIN_VALUE));
        expect.same("entries behind wrong cuts", vault.count(2), 1);
        expect.goes("cut to 8 of 8", () -> vault.cut(0, 8));
        octets(expect, vault, 0, 1, 2, 3, 4, 5, 6, 7, 8);
        expect.goes("cut to 3", () -> vault.cut(0, 3));
        octets(expect, vault, 0, 1, 2, 3);
        expect.argument("write at 4 behind a cut to 3", () -> vault.write(0, 4, 0L));
        expect.goes("cut to 0", () -> vault.cut(0, 0));
        octets(expect, vault, 0);
        expect.same("a FILE of 0 octets is there", vault.count(7), 1);
        expect.goes("cut of 0 to 0", () -> vault.cut(0, 0));
        expect.same("each cut is an entry", vault.count(2), 5);
        expect.answers("write behind a cut", 8, () -> vault.write(0, 0, 9L));
        octets(expect, vault, 0, 0, 0, 0, 0, 0, 0, 0, 9);
    }

    private static void removes(Expect expect) {
        RaidVault vault = new RaidVault();
        expect.argument("remove of none", () -> vault.remove(0));
        expect.argument("remove of file -1", () -> vault.remove(-1));
        expect.argument("remove of file 32", () -> vault.remove(32));
        vault.write(9, 0, 1L);
        vault.write(10, 0, 1L);
        expect.goes("remove", () -> vault.remove(9));
        expect.answers("size of what was removed", -1, () -> vault.size(-1, 9));
        expect.outside("octet of what was removed", () -> vault.octet(-1, 9, 0));
        expect.argument("remove again", () -> vault.remove(9));
        expect.argument("cut of what was removed", () -> vault.cut(9, 0));
        expect.argument("write at 8 of what was removed", () -> vault.write(9, 8, 1L));
        expect.same("FILES", vault.count(7), 1);
        expect.same("entries", vault.count(2), 3);
        expect.answers("write of what was removed", 8, () -> vault.write(9, 0, 3L));
        octets(expect, vault, 9, 0, 0, 0, 0, 0, 0, 0, 3);
    }

    private static void reads(Expect expect) {
        RaidVault vault = new RaidVault();
        vault.write(2, 0, 0x00FF7F8001000000L);
        vault.snapshot(1);
        vault.cut(2, 2);
        expect.answers("size now", 2, () -> vault.size(-1, 2));
        expect.answers("size in SNAPSHOT 1", 8, () -> vault.size(1, 2));
        expect.answers("size of none in SNAPSHOT 1", -1, () -> vault.size(1, 3));
        expect.answers("size of none in the other half", -1, () -> vault.size(1, 20));
        expect.argument("size in SNAPSHOT 0", () -> vault.size(0, 2));
        expect.argument("size in SNAPSHOT 5", () -> vault.size(5, 2));
        expect.argument("size in SNAPSHOT -2", () -> vault.size(-2, 2));
        expect.argument("size in the least SNAPSHOT", () -> vault.size(Integer.MIN_VALUE, 2));
        expect.argument("size in the greatest SNAPSHOT", () -> vault.size(Integer.MAX_VALUE, 2));
        expect.argument("size of file -1", () -> vault.size(-1, -1));
        expect.argument("size of file 32", () -> vault.size(1, 32));
        expect.answers("octet in SNAPSHOT 1", 127, () -> vault.octet(1, 2, 2));
        expect.answers("octet 128", 128, () -> vault.octet(1, 2, 3));
        expect.answers("octet now", 255, () -> vault.octet(-1, 2, 1));
        expect.outside("octet 2 now", () -> vault.octet(-1, 2, 2));
        expect.outside("octet 8 in SNAPSHOT 1", () -> vault.octet(1, 2, 8));
        expect.outside("octet -1", () -> vault.octet(1, 2, -1));
        expect.outside("octet of none", () -> vault.octet(1, 3, 0));
        expect.outside("the greatest octet", () -> vault.octet(1, 2, Integer.MAX_VALUE));
        expect.argument("octet -1 of file 32", () -> vault.octet(-1, 32, -1));
        expect.argument("octet -1 in SNAPSHOT 2", () -> vault.octet(2, 2, -1));
    }

    private static void whenBroken(Expect expect) {
        RaidVault vault = Layout.broken();
        expect.state("write", () -> vault.write(5, 8, 0L));
        expect.argument("write with wrong arguments", () -> vault.write(5, 9, 0L));
        expect.state("cut", () -> vault.cut(5, 8));
        expect.argument("cut with wrong arguments", () -> vault.cut(5, 9));
        expect.state("remove", () -> vault.remove(6));
        expect.argument("remove of none", () -> vault.remove(7));
        expect.state("size now", () -> vault.size(-1, 5));
        expect.state("size in a SNAPSHOT", () -> vault.size(3, 5));
        expect.argument("size in no SNAPSHOT", () -> vault.size(2, 5));
        expect.state("octet", () -> vault.octet(3, 5, 0));
        expect.state("octet that there is not", () -> vault.octet(3, 5, 99));
        expect.argument("octet of no file", () -> vault.octet(3, 32, 0));
        expect.same("entries as they were", vault.count(2), 1);
    }
}
