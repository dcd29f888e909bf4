/** Promise 6: size. */
public final class Promise06SizeTest {
    private Promise06SizeTest() {
    }

    public static void main(String[] args) {
        Tests.run(Promise06SizeTest.class);
    }

    private static void argument(Expect expect, Scene scene, int k, int file) {
        Twins.refused(expect, Expect.ARGUMENT, "size(" + k + ", " + file + ")", scene, v -> v.size(k, file));
    }

    static void promise06NowAndInASnapshot(Expect expect) {
        RaidVault vault = Scene.SOME.made();
        expect.answers("FILE 0 now", 48, () -> vault.size(-1, 0));
        expect.answers("FILE 0 in SNAPSHOT 1", 40, () -> vault.size(1, 0));
        expect.answers("FILE 31 now", 3, () -> vault.size(-1, 31));
        expect.answers("FILE 31 in SNAPSHOT 1", 8, () -> vault.size(1, 31));
    }

    static void promise06NoneIsMinus1And0OctetsAre0(Expect expect) {
        RaidVault vault = new RaidVault();
        expect.answers("none now", -1, () -> vault.size(-1, 20));
        vault.write(20, 0, 1L);
        vault.cut(20, 0);
        expect.answers("0 octets now", 0, () -> vault.size(-1, 20));
        vault.snapshot(0);
        expect.answers("0 octets in the SNAPSHOT", 0, () -> vault.size(0, 20));
        expect.answers("none beside it in the SNAPSHOT", -1, () -> vault.size(0, 21));
        expect.answers("none in a half that is none", -1, () -> vault.size(0, 0));
        vault.remove(20);
        vault.snapshot(1);
        expect.answers("what was removed", -1, () -> vault.size(1, 20));
        expect.answers("what was there", 0, () -> vault.size(0, 20));
    }

    static void promise06TheLongest(Expect expect) {
        RaidVault vault = new RaidVault();
        Layout.grow(vault, 15, 0, 56);
        vault.snapshot(2);
        vault.cut(15, 447);
        expect.answers("448 octets in the SNAPSHOT", 448, () -> vault.size(2, 15));
        expect.answers("447 octets now", 447, () -> vault.size(-1, 15));
    }

    static void promise06EachSnapshotIsTheOneThatIsMeant(Expect expect) {
        RaidVault vault = new RaidVault();
        for (int k = 0; k < 5; k++) {
            vault.write(3, 8 * k, k);
            vault.write(18, 0, k);
            vault.cut(18, k);
            vault.snapshot(k);
        }
        for (int i = 0; i < 5; i++) {
            int k = i;
            expect.answers("FILE 3 in SNAPSHOT " + k, 8 * k + 8, () -> vault.size(k, 3));
            expect.answers("FILE 18 in SNAPSHOT " + k, k, () -> vault.size(k, 18));
        }
    }

    static void promise06ThereIsNoSuchSnapshot(Expect expect) {
        for (int k : new int[] {-2, 0, 2, 3, 4, 5, Integer.MIN_VALUE, Integer.MAX_VALUE}) {
            argument(expect, Scene.SOME, k, 0);
        }
        argument(expect, Scene.SOME.then(v -> v.drop(1)), 1, 0);
        argument(expect, v -> v.snapshot(0), 0, 0);
    }

    static void promise06FilesAre0To31(Expect expect) {
        for (int file : new int[] {-1, 32, Integer.MIN_VALUE, Integer.MAX_VALUE}) {
            argument(expect, Scene.SOME, -1, file);
            argument(expect, Scene.SOME, 1, file);
            argument(expect, Scene.SOME, 0, file);
        }
    }

    static void promise06IsRefusedWhenBrokenBehindArguments(Expect expect) {
        for (Scene broken : new Scene[] {Scene.BROKEN, Scene.BROKEN_REBUILT}) {
            Twins.refused(expect, Expect.STATE, "size now when BROKEN", broken, v -> v.size(-1, 0));
            Twins.refused(expect, Expect.STATE, "size of none when BROKEN", broken, v -> v.size(-1, 5));
            Twins.refused(expect, Expect.STATE, "size in a SNAPSHOT when BROKEN", broken, v -> v.size(1, 0));
            argument(expect, broken, 0, 0);
            argument(expect, broken, 5, 0);
            argument(expect, broken, -1, 32);
            argument(expect, broken, 1, -1);
        }
    }

    static void promise06IsNotRefusedWithOneDiskFailed(Expect expect) {
        for (int i = 0; i < 5; i++) {
            int disk = i;
            RaidVault vault = Scene.SOME.then(v -> v.fail(disk)).made();
            expect.answers("now", 48, () -> vault.size(-1, 0));
            expect.answers("in the SNAPSHOT", 40, () -> vault.size(1, 0));
            expect.answers("in the other half", 8, () -> vault.size(1, 31));
        }
    }

    static void promise06ChangesNothing(Expect expect) {
        Twins.same(expect, "behind size", Scene.SOME.then(v -> v.size(1, 0)), Scene.SOME);
        Twins.same(expect, "behind size of none", Scene.SOME.then(v -> v.size(-1, 9)), Scene.SOME);
    }
}
