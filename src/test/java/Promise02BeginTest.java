/** Promise 2: begin. */
public final class Promise02BeginTest {
    private Promise02BeginTest() {
    }

    public static void main(String[] args) {
        Tests.run(Promise02BeginTest.class);
    }

    private static void isNewBehindBegin(Expect expect, String what, Scene scene) {
        Twins.same(expect, "behind begin() " + what, scene.then(RaidVault::begin), Scene.NEW);
    }

    static void promise02BehindNothing(Expect expect) {
        isNewBehindBegin(expect, "of a new object", Scene.NEW);
    }

    static void promise02BehindFilesSnapshotsAndEntries(Expect expect) {
        isNewBehindBegin(expect, "with FILES, a SNAPSHOT and entries", Scene.SOME);
        isNewBehindBegin(expect, "with 40 entries", Scene.FORTY);
    }

    static void promise02BehindBegin(Expect expect) {
        isNewBehindBegin(expect, "twice", Scene.SOME.then(RaidVault::begin));
    }

    static void promise02BehindFull(Expect expect) {
        isNewBehindBegin(expect, "of what is FULL", Scene.FULL_FORTY);
        isNewBehindBegin(expect, "of what has no FREE PLACE", Scene.WITHOUT_FREE);
    }

    static void promise02BehindAFailedDisk(Expect expect) {
        isNewBehindBegin(expect, "with a FAILED DISK", Scene.FAILED);
        isNewBehindBegin(expect, "with a REBUILT DISK", Scene.REBUILT);
        RaidVault vault = Scene.FAILED.then(RaidVault::begin).made();
        expect.state("replace of what FAILED before", vault::replace);
        expect.state("rebuild of what FAILED before", () -> vault.rebuild(1));
        Scene failedAnew = Scene.FAILED.then(RaidVault::begin).then(v -> v.fail(1));
        Twins.same(expect, "with another DISK FAILED behind begin()", failedAnew, v -> v.fail(1));
    }

    static void promise02IsNotRefusedWhenBroken(Expect expect) {
        RaidVault vault = Scene.BROKEN.made();
        expect.goes("begin when BROKEN", vault::begin);
        isNewBehindBegin(expect, "of what was BROKEN", Scene.BROKEN);
        isNewBehindBegin(expect, "of what was BROKEN while REBUILT", Scene.BROKEN_REBUILT);
    }

    static void promise02NothingOfBeforeComesBack(Expect expect) {
        Scene used = vault -> {
            Layout.grow(vault, 4, 0, 30);
            Layout.grow(vault, 31, 0, 20);
            vault.write(6, 0, 6L);
            vault.write(30, 0, 6L);
            vault.snapshot(4);
            vault.write(7, 0, 7L);
            vault.begin();
        };
        Scene next = vault -> {
            vault.write(4, 0, 1L);
            vault.write(4, 5, 2L);
            vault.cut(4, 12);
            vault.snapshot(0);
            vault.cut(4, 0);
            vault.write(31, 0, 3L);
        };
        Twins.same(expect, "of calls behind begin()", used.then(next), next);
        RaidVault vault = used.made();
        expect.answers("a write behind begin()", 8, () -> vault.write(4, 0, 1L));
        expect.answers("the first POINT behind begin()", 1, vault::point);
        Layout.words(expect, vault, 1, 1L);
        Layout.numbers(expect, vault, 2, 8, 1);
        Layout.numbers(expect, vault, 3, 0, 0, 0, 0, 2);
        Layout.numbers(expect, vault, 0, 0, 1, 3);
    }
}
