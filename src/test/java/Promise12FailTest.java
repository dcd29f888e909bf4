/** Promise 12: fail. */
public final class Promise12FailTest {
    private Promise12FailTest() {
    }

    public static void main(String[] args) {
        Tests.run(Promise12FailTest.class);
    }

    private static void argument(Expect expect, Scene scene, int disk) {
        Twins.refused(expect, Expect.ARGUMENT, "fail(" + disk + ")", scene, v -> v.fail(disk));
    }

    static void promise12DisksAre0To4(Expect expect) {
        for (int i = 0; i < 5; i++) {
            int disk = i;
            RaidVault vault = new RaidVault();
            expect.goes("fail of DISK " + disk, () -> vault.fail(disk));
            Layout.counts(expect, "behind it", vault, 0, 599, 0, 0, disk, 0, 0, 0);
            expect.state("a BLOCK of it", () -> vault.block(disk, 0, 0));
        }
        for (int disk : new int[] {-1, 5, -2, 6, Integer.MIN_VALUE, Integer.MAX_VALUE}) {
            argument(expect, Scene.SOME, disk);
            argument(expect, Scene.FAILED, disk);
        }
    }

    static void promise12AgainIsNotBroken(Expect expect) {
        for (int i = 0; i < 5; i++) {
            int disk = i;
            Scene once = Scene.SOME.then(v -> v.fail(disk));
            Twins.same(expect, "behind fail twice", once.then(v -> v.fail(disk)), once);
        }
    }

    static void promise12AgainWhileRebuiltIsFromTheBeginning(Expect expect) {
        for (int n : new int[] {0, 1, 149}) {
            Scene rebuilt = Scene.FAILED.then(RaidVault::replace).then(v -> v.rebuild(n));
            Scene again = rebuilt.then(v -> v.fail(2));
            Twins.same(expect, "behind fail with " + n + " STRIPES", again, Scene.FAILED);
            Scene replaced = Scene.FAILED.then(RaidVault::replace);
            Twins.same(expect, "behind replace of it", again.then(RaidVault::replace), replaced);
        }
    }

    static void promise12OfASoundOneWhileAnotherIsNot(Expect expect) {
        Scene[] notSound = {Scene.FAILED, Scene.FAILED.then(RaidVault::replace), Scene.REBUILT,
            Scene.REBUILT.then(v -> v.rebuild(148))};
        for (Scene scene : notSound) {
            for (int i = 0; i < 5; i++) {
                int disk = i;
                RaidVault vault = scene.made();
                int upTo = vault.count(5);
                expect.goes("fail of DISK " + disk, () -> vault.fail(disk));
                expect.same("BROKEN behind DISKS 2 and " + disk, vault.count(6), disk == 2 ? 0 : 1);
                expect.same("the DISK that is not SOUND", vault.count(4), 2);
                expect.same("up to which it is REBUILT", vault.count(5), disk == 2 ? 0 : upTo);
            }
        }
    }

    static void promise12OfAnotherBehindTheLastStripeIsNotBroken(Expect expect) {
        RaidVault vault = Scene.REBUILT.then(v -> v.rebuild(149)).made();
        expect.goes("fail of DISK 0", () -> vault.fail(0));
        expect.same("BROKEN", vault.count(6), 0);
        expect.same("the DISK that is not SOUND", vault.count(4), 0);
        expect.answers("octets in the SNAPSHOT", 40, () -> vault.size(1, 0));
    }

    static void promise12IsRefusedWhenBrokenBehindArguments(Expect expect) {
        for (Scene broken : new Scene[] {Scene.BROKEN, Scene.BROKEN_REBUILT}) {
            for (int i = 0; i < 5; i++) {
                int disk = i;
                Twins.refused(expect, Expect.STATE, "fail when BROKEN", broken, v -> v.fail(disk));
            }
            argument(expect, broken, -1);
            argument(expect, broken, 5);
        }
    }

    static void promise12TakesNoWritingAndNoEntry(Expect expect) {
        RaidVault vault = Scene.FORTY.made();
        int writings = vault.count(3);
        vault.fail(4);
        expect.same("WRITINGS", vault.count(3), writings);
        expect.same("entries", vault.count(2), 40);
        expect.same("number", vault.count(0), 1);
    }
}
