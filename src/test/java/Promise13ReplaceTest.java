/** Promise 13: replace. */
public final class Promise13ReplaceTest {
    private Promise13ReplaceTest() {
    }

    public static void main(String[] args) {
        Tests.run(Promise13ReplaceTest.class);
    }

    private static void state(Expect expect, String what, Scene scene) {
        Twins.refused(expect, Expect.STATE, "replace " + what, scene, RaidVault::replace);
    }

    static void promise13RebuiltUpToStripe0(Expect expect) {
        for (int disk = 0; disk < 5; disk++) {
            RaidVault vault = new RaidVault();
            vault.fail(disk);
            expect.goes("replace", vault::replace);
            Layout.counts(expect, "behind it", vault, 0, 599, 0, 0, disk, 0, 0, 0);
            expect.answers("no STRIPE yet", 0, () -> vault.rebuild(0));
            expect.answers("the first STRIPE", 1, () -> vault.rebuild(1));
        }
    }

    static void promise13ItIsAll0(Expect expect) {
        for (int i = 0; i < 5; i++) {
            int disk = i;
            for (int word = 0; word < 4; word++) {
                RaidVault vault = Scene.JUST_ENOUGH.made();
                vault.point();
                vault.fail(disk);
                vault.replace();
                for (int block = 0; block < 140; block++) {
                    expect.same("a word of DISK " + disk, vault.block(disk, block, word), 0);
                }
            }
            RaidVault vault = Scene.JUST_ENOUGH.then(RaidVault::point).made();
            vault.fail(disk);
            vault.replace();
            for (int block = 140; block < 150; block++) {
                for (int word = 0; word < 4; word++) {
                    expect.same("a word of DISK " + disk, vault.block(disk, block, word), 0);
                }
            }
        }
    }

    static void promise13WithoutAFailedOne(Expect expect) {
        state(expect, "of a new object's", Scene.NEW);
        state(expect, "with all SOUND", Scene.SOME);
        state(expect, "of a REBUILT one up to STRIPE 0", Scene.FAILED.then(RaidVault::replace));
        state(expect, "of a REBUILT one up to STRIPE 1", Scene.REBUILT);
        state(expect, "of a REBUILT one up to STRIPE 149", Scene.REBUILT.then(v -> v.rebuild(148)));
        state(expect, "of one that is SOUND again", Scene.REBUILT.then(v -> v.rebuild(149)));
    }

    static void promise13WhenBroken(Expect expect) {
        state(expect, "when BROKEN", Scene.BROKEN);
        state(expect, "when BROKEN while REBUILT", Scene.BROKEN_REBUILT);
        Scene rebuiltAndFailed = Scene.REBUILT.then(v -> v.fail(2)).then(v -> v.fail(4));
        state(expect, "when BROKEN behind one that failed again", rebuiltAndFailed);
    }

    static void promise13WhatIsReadIsReckonedStill(Expect expect) {
        for (int i = 0; i < 5; i++) {
            int disk = i;
            RaidVault vault = Scene.SOME.then(v -> v.fail(disk)).then(RaidVault::replace).made();
            Layout.grown(expect, vault, 1, 0, 5);
            vault.crash(0, true);
            Layout.grown(expect, vault, -1, 0, 6);
            expect.answers("FILE 31", 3, () -> vault.size(-1, 31));
        }
    }

    static void promise13TakesNoWriting(Expect expect) {
        RaidVault vault = Scene.FAILED.made();
        int writings = vault.count(3);
        vault.replace();
        expect.same("WRITINGS", vault.count(3), writings);
        expect.same("entries", vault.count(2), 2);
    }
}
