/** Promise 14: rebuild. */
public final class Promise14RebuildTest {
    private Promise14RebuildTest() {
    }

    public static void main(String[] args) {
        Tests.run(Promise14RebuildTest.class);
    }

    private static Scene replaced(int disk) {
        return vault -> {
            vault.fail(disk);
            vault.replace();
        };
    }

    static void promise14AnswersUpToWhichItIsRebuilt(Expect expect) {
        RaidVault vault = replaced(3).made();
        expect.answers("of 0", 0, () -> vault.rebuild(0));
        expect.answers("of 1", 1, () -> vault.rebuild(1));
        expect.answers("of 0 more", 1, () -> vault.rebuild(0));
        expect.answers("of 6 more", 7, () -> vault.rebuild(6));
        Layout.counts(expect, "with one REBUILT up to 7", vault, 0, 599, 0, 0, 3, 7, 0, 0);
    }

    static void promise14With149ItIsNotSound(Expect expect) {
        RaidVault vault = replaced(0).made();
        expect.answers("of 149", 149, () -> vault.rebuild(149));
        Layout.counts(expect, "with 149", vault, 0, 599, 0, 0, 0, 149, 0, 0);
        expect.answers("of 0 more", 149, () -> vault.rebuild(0));
        expect.same("the DISK that is not SOUND", vault.count(4), 0);
    }

    static void promise14With150ItIsSound(Expect expect) {
        for (int[] steps : new int[][] {{150}, {149, 1}, {1, 149}, {0, 150}, {75, 75}}) {
            RaidVault vault = replaced(4).made();
            int upTo = 0;
            for (int i = 0; i < steps.length; i++) {
                int n = steps[i];
                upTo += n;
                expect.answers("of " + n, upTo, () -> vault.rebuild(n));
            }
            Layout.counts(expect, "with 150", vault, 0, 599, 0, 0, -1, 150, 0, 0);
            expect.state("rebuild of what is SOUND", () -> vault.rebuild(1));
            expect.state("replace of what is SOUND", vault::replace);
        }
    }

    static void promise14NMayBeMoreThanThereAre(Expect expect) {
        for (int n : new int[] {151, 1000, Integer.MAX_VALUE}) {
            RaidVault vault = replaced(1).made();
            expect.answers("of " + n, 150, () -> vault.rebuild(n));
            expect.same("the DISK that is not SOUND", vault.count(4), -1);
            RaidVault behind = replaced(1).then(v -> v.rebuild(149)).made();
            expect.answers("of " + n + " behind 149", 150, () -> behind.rebuild(n));
            expect.same("the DISK that is not SOUND", behind.count(4), -1);
        }
    }

    static void promise14NIsNotBelow0(Expect expect) {
        Scene[] scenes = {Scene.REBUILT, Scene.SOME, Scene.FAILED, Scene.BROKEN, Scene.BROKEN_REBUILT};
        for (Scene scene : scenes) {
            Twins.refused(expect, Expect.ARGUMENT, "rebuild(-1)", scene, v -> v.rebuild(-1));
            Twins.refused(expect, Expect.ARGUMENT, "the least n", scene, v -> v.rebuild(Integer.MIN_VALUE));
        }
    }

    static void promise14NoneIsRebuilt(Expect expect) {
        Scene sound = Scene.REBUILT.then(v -> v.rebuild(149));
        Scene[] scenes = {Scene.NEW, Scene.SOME, Scene.FAILED, sound, Scene.REBUILT.then(v -> v.fail(2))};
        for (Scene scene : scenes) {
            Twins.refused(expect, Expect.STATE, "rebuild(0)", scene, v -> v.rebuild(0));
            Twins.refused(expect, Expect.STATE, "rebuild(1)", scene, v -> v.rebuild(1));
            Twins.refused(expect, Expect.STATE, "rebuild(150)", scene, v -> v.rebuild(150));
        }
    }

    static void promise14WhenBroken(Expect expect) {
        for (Scene broken : new Scene[] {Scene.BROKEN, Scene.BROKEN_REBUILT}) {
            Twins.refused(expect, Expect.STATE, "rebuild(0) when BROKEN", broken, v -> v.rebuild(0));
            Twins.refused(expect, Expect.STATE, "rebuild(149) when BROKEN", broken, v -> v.rebuild(149));
        }
    }

    /** PLACES 0 to 7 are written, so those of two STRIPES. */
    static void promise14TheNextStripesAloneAreWritten(Expect expect) {
        Scene files = v -> {
            v.write(0, 0, 0x1111111111111111L);
            v.write(1, 0, 0x2222222222222222L);
            v.write(2, 0, 0x3333333333333333L);
            v.point();
        };
        RaidVault sound = files.made();
        for (int disk = 0; disk < 5; disk++) {
            RaidVault vault = files.then(replaced(disk)).made();
            vault.rebuild(0);
            expect.same("BLOCK 0 with none", vault.block(disk, 0, 0), 0);
            vault.rebuild(1);
            expect.same("BLOCK 0 with one", vault.block(disk, 0, 0), sound.block(disk, 0, 0));
            expect.same("BLOCK 1 with one", vault.block(disk, 1, 0), 0);
            vault.rebuild(1);
            expect.same("BLOCK 0 with two", vault.block(disk, 0, 0), sound.block(disk, 0, 0));
            expect.same("BLOCK 1 with two", vault.block(disk, 1, 0), sound.block(disk, 1, 0));
        }
        expect.same("a BLOCK that is not 0", sound.block(1, 1, 0), 0x3333333333333333L);
    }

    static void promise14TheLastStripe(Expect expect) {
        Scene full = Scene.JUST_ENOUGH.then(RaidVault::point);
        RaidVault sound = full.made();
        for (int disk = 0; disk < 5; disk++) {
            RaidVault vault = full.then(replaced(disk)).made();
            vault.rebuild(149);
            for (int word = 0; word < 4; word++) {
                expect.same("BLOCK 148 with 149", vault.block(disk, 148, word), sound.block(disk, 148, word));
                expect.same("BLOCK 149 with 149", vault.block(disk, 149, word), 0);
            }
            vault.rebuild(1);
            for (int word = 0; word < 4; word++) {
                expect.same("BLOCK 149 with 150", vault.block(disk, 149, word), sound.block(disk, 149, word));
            }
        }
        expect.same("a BLOCK that is not 0", sound.block(3, 149, 0) != 0 ? 1 : 0, 1);
    }

    static void promise14AllIsAsIfNoDiskHadFailed(Expect expect) {
        for (int disk = 0; disk < 5; disk++) {
            Scene rebuilt = Scene.SOME.then(replaced(disk)).then(v -> v.rebuild(150));
            Twins.same(expect, "behind rebuild of DISK " + disk, rebuilt, Scene.SOME);
        }
    }

    static void promise14TakesNoWritingOfAPlace(Expect expect) {
        RaidVault vault = Scene.REBUILT.made();
        int writings = vault.count(3);
        vault.rebuild(149);
        expect.same("WRITINGS", vault.count(3), writings);
        expect.same("entries", vault.count(2), 2);
    }
}
