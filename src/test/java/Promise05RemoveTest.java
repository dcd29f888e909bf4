/** Promise 5: remove. */
public final class Promise05RemoveTest {
    private Promise05RemoveTest() {
    }

    public static void main(String[] args) {
        Tests.run(Promise05RemoveTest.class);
    }

    private static void argument(Expect expect, Scene scene, int file) {
        Twins.refused(expect, Expect.ARGUMENT, "remove(" + file + ")", scene, v -> v.remove(file));
    }

    static void promise05ItIsNone(Expect expect) {
        RaidVault vault = Scene.SOME.made();
        expect.goes("remove", () -> vault.remove(0));
        expect.answers("its size", -1, () -> vault.size(-1, 0));
        expect.outside("its octet 0", () -> vault.octet(-1, 0, 0));
        expect.same("FILES", vault.count(7), 1);
        expect.same("entries", vault.count(2), 3);
        expect.answers("it is in the SNAPSHOT still", 40, () -> vault.size(1, 0));
        expect.answers("the other FILE", 3, () -> vault.size(-1, 31));
    }

    static void promise05FilesAre0To31(Expect expect) {
        RaidVault vault = Scene.SOME.made();
        expect.goes("remove of FILE 31", () -> vault.remove(31));
        expect.goes("remove of FILE 0", () -> vault.remove(0));
        expect.same("FILES", vault.count(7), 0);
        for (int file : new int[] {-1, 32, Integer.MIN_VALUE, Integer.MAX_VALUE}) {
            argument(expect, Scene.SOME, file);
        }
    }

    static void promise05OfNone(Expect expect) {
        argument(expect, Scene.NEW, 0);
        argument(expect, Scene.NEW, 31);
        argument(expect, Scene.SOME, 1);
        argument(expect, Scene.SOME.then(v -> v.remove(0)), 0);
    }

    static void promise05OfAFileOf0Octets(Expect expect) {
        RaidVault vault = Scene.SOME.then(v -> v.cut(0, 0)).made();
        expect.goes("remove of 0 octets", () -> vault.remove(0));
        expect.answers("its size", -1, () -> vault.size(-1, 0));
    }

    static void promise05OfOneThatIsInMemoryAlone(Expect expect) {
        RaidVault vault = new RaidVault();
        vault.write(9, 0, 1L);
        expect.goes("remove", () -> vault.remove(9));
        Layout.counts(expect, "behind it", vault, 0, 599, 2, 0, -1, 150, 0, 0);
    }

    static void promise05ItCanBeMadeAnew(Expect expect) {
        RaidVault vault = Scene.SOME.made();
        vault.remove(0);
        expect.argument("a write at 8", () -> vault.write(0, 8, 1L));
        expect.argument("a cut", () -> vault.cut(0, 0));
        expect.answers("a write at 0", 8, () -> vault.write(0, 0, 3L));
        Layout.octets(expect, vault, 0, 0, 0, 0, 0, 0, 0, 0, 3);
    }

    static void promise05IsRefusedWhenBrokenBehindArguments(Expect expect) {
        for (Scene broken : new Scene[] {Scene.BROKEN, Scene.BROKEN_REBUILT}) {
            Twins.refused(expect, Expect.STATE, "remove when BROKEN", broken, v -> v.remove(0));
            argument(expect, broken, 5);
            argument(expect, broken, 32);
            argument(expect, broken, -1);
        }
    }

    static void promise05FullIsLookedAtLast(Expect expect) {
        Twins.refused(expect, Expect.FULL, "remove when FULL", Scene.FULL_FORTY, v -> v.remove(0));
        Twins.refused(expect, Expect.STATE, "remove when BROKEN and FULL", Scene.BROKEN_FULL_FORTY, v -> v.remove(0));
        argument(expect, Scene.FULL_FORTY, 32);
        argument(expect, Scene.BROKEN_FULL_FORTY, 32);
    }

    static void promise05IsNotFullBefore40Entries(Expect expect) {
        RaidVault vault = Scene.FULL.made();
        expect.goes("a remove where a POINT would be FULL", () -> vault.remove(3));
        expect.same("entries", vault.count(2), 5);
    }
}
