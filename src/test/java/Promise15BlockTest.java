/** Promise 15: block. */
public final class Promise15BlockTest {
    private Promise15BlockTest() {
    }

    public static void main(String[] args) {
        Tests.run(Promise15BlockTest.class);
    }

    private static void refused(Expect expect, Class<?> due, Scene scene, int disk, int block, int word) {
        String told = "block(" + disk + ", " + block + ", " + word + ")";
        Twins.refused(expect, due, told, scene, v -> v.block(disk, block, word));
    }

    static void promise15EightOctetsFrom8TimesWordOn(Expect expect) {
        RaidVault vault = new RaidVault();
        Layout.grow(vault, 0, 0, 4);
        vault.point();
        for (int i = 0; i < 4; i++) {
            int word = i;
            expect.answers("word " + word, Layout.value(0, word), () -> vault.block(1, 0, word));
        }
        vault.write(0, 0, 0x8000000000000001L);
        expect.answers("a write in memory", Layout.value(0, 0), () -> vault.block(1, 0, 0));
        vault.point();
        expect.answers("its highest octet comes first", 0x8000000000000001L, () -> vault.block(0, 1, 0));
    }

    static void promise15DisksAre0To4(Expect expect) {
        RaidVault vault = new RaidVault();
        expect.answers("DISK 0", 0, () -> vault.block(0, 0, 0));
        expect.answers("DISK 4", 0, () -> vault.block(4, 0, 0));
        for (int disk : new int[] {-1, 5, Integer.MIN_VALUE, Integer.MAX_VALUE}) {
            refused(expect, Expect.ARGUMENT, Scene.SOME, disk, 0, 0);
        }
    }

    static void promise15BlocksAre0To149(Expect expect) {
        RaidVault vault = new RaidVault();
        expect.answers("BLOCK 149", 0, () -> vault.block(0, 149, 0));
        for (int block : new int[] {-1, 150, Integer.MIN_VALUE, Integer.MAX_VALUE}) {
            refused(expect, Expect.ARGUMENT, Scene.SOME, 0, block, 0);
            refused(expect, Expect.ARGUMENT, Scene.SOME, 4, block, 0);
        }
    }

    static void promise15WordsAre0To3(Expect expect) {
        RaidVault vault = new RaidVault();
        expect.answers("word 3", 0, () -> vault.block(0, 0, 3));
        expect.answers("the very last word", 0, () -> vault.block(4, 149, 3));
        for (int word : new int[] {-1, 4, Integer.MIN_VALUE, Integer.MAX_VALUE}) {
            refused(expect, Expect.ARGUMENT, Scene.SOME, 0, 0, word);
            refused(expect, Expect.ARGUMENT, Scene.SOME, 4, 149, word);
        }
    }

    static void promise15OfAFailedDisk(Expect expect) {
        refused(expect, Expect.STATE, Scene.FAILED, 2, 0, 0);
        refused(expect, Expect.STATE, Scene.FAILED, 2, 149, 3);
        refused(expect, Expect.STATE, Scene.REBUILT.then(v -> v.fail(2)), 2, 0, 0);
        RaidVault sound = Scene.SOME.made();
        RaidVault vault = Scene.FAILED.made();
        for (int disk : new int[] {0, 1, 3, 4}) {
            expect.same("a BLOCK of SOUND DISK " + disk, vault.block(disk, 0, 0), sound.block(disk, 0, 0));
        }
    }

    static void promise15ArgumentsAreLookedAtBeforeTheDisk(Expect expect) {
        for (Scene scene : new Scene[] {Scene.FAILED, Scene.BROKEN}) {
            refused(expect, Expect.ARGUMENT, scene, 2, 150, 0);
            refused(expect, Expect.ARGUMENT, scene, 2, -1, 0);
            refused(expect, Expect.ARGUMENT, scene, 2, 0, 4);
            refused(expect, Expect.ARGUMENT, scene, 2, 0, -1);
            refused(expect, Expect.ARGUMENT, scene, 5, 0, 0);
        }
    }

    static void promise15AsTheyStandWhileRebuilt(Expect expect) {
        RaidVault sound = Scene.SOME.made();
        RaidVault vault = Scene.REBUILT.made();
        for (int i = 0; i < 4; i++) {
            int word = i;
            expect.answers("BLOCK 0 is REBUILT", sound.block(2, 0, word), () -> vault.block(2, 0, word));
            expect.answers("BLOCK 1 is not", 0, () -> vault.block(2, 1, word));
        }
        expect.same("though it should not be 0", sound.block(2, 1, 0) != 0 ? 1 : 0, 1);
    }

    static void promise15IsNotRefusedWhenBroken(Expect expect) {
        RaidVault sound = Scene.SOME.made();
        RaidVault vault = Scene.BROKEN.made();
        for (int i : new int[] {0, 1, 3, 4}) {
            int disk = i;
            expect.answers("a BLOCK of DISK " + disk, sound.block(disk, 0, 0), () -> vault.block(disk, 0, 0));
        }
        expect.same("that of the second one that failed is not 0", sound.block(0, 0, 0) != 0 ? 1 : 0, 1);
        refused(expect, Expect.STATE, Scene.BROKEN, 2, 0, 0);
        RaidVault rebuilt = Scene.BROKEN_REBUILT.made();
        expect.answers("a BLOCK that was REBUILT", sound.block(2, 0, 0), () -> rebuilt.block(2, 0, 0));
        expect.answers("a BLOCK that was not", 0, () -> rebuilt.block(2, 1, 0));
    }

    static void promise15ChangesNothing(Expect expect) {
        Twins.same(expect, "behind block", Scene.REBUILT.then(v -> v.block(2, 0, 0)), Scene.REBUILT);
    }
}
