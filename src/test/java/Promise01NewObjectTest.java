/** Promise 1: a new object. */
public final class Promise01NewObjectTest {
    private Promise01NewObjectTest() {
    }

    public static void main(String[] args) {
        Tests.run(Promise01NewObjectTest.class);
    }

    static void promise01AllCountsAreThoseOfNothing(Expect expect) {
        Layout.counts(expect, "of a new object", new RaidVault(), 0, 599, 0, 0, -1, 150, 0, 0);
    }

    static void promise01AllFilesAreNone(Expect expect) {
        RaidVault vault = new RaidVault();
        for (int file = 0; file < 32; file++) {
            int f = file;
            expect.answers("size of FILE " + f, -1, () -> vault.size(-1, f));
            expect.outside("octet 0 of FILE " + f, () -> vault.octet(-1, f, 0));
            expect.argument("cut of FILE " + f, () -> vault.cut(f, 0));
            expect.argument("remove of FILE " + f, () -> vault.remove(f));
        }
    }

    static void promise01ThereIsNoSnapshot(Expect expect) {
        RaidVault vault = new RaidVault();
        for (int i = 0; i < 5; i++) {
            int k = i;
            expect.argument("size in SNAPSHOT " + k, () -> vault.size(k, 0));
            expect.argument("octet in SNAPSHOT " + k, () -> vault.octet(k, 0, 0));
            expect.argument("drop of SNAPSHOT " + k, () -> vault.drop(k));
        }
    }

    static void promise01AllDisksAreSound(Expect expect) {
        RaidVault vault = new RaidVault();
        expect.state("replace", vault::replace);
        expect.state("rebuild", () -> vault.rebuild(1));
        expect.answers("a BLOCK of the last DISK", 0, () -> vault.block(4, 149, 3));
    }

    static void promise01AllBlocksAre0(Expect expect) {
        for (int disk = 0; disk < 5; disk++) {
            for (int word = 0; word < 4; word++) {
                RaidVault vault = new RaidVault();
                for (int block = 0; block < 150; block++) {
                    expect.same("a word of a BLOCK", vault.block(disk, block, word), 0);
                }
            }
        }
    }

    static void promise01IsAsBeginLeavesIt(Expect expect) {
        Twins.same(expect, "of a new object", Scene.NEW, Scene.REBUILT.then(RaidVault::begin));
    }

    static void promise01ObjectsAreApart(Expect expect) {
        Scene besideAnother = vault -> Scene.BROKEN.made();
        Twins.same(expect, "of an object beside another one", besideAnother, Scene.NEW);
    }
}
