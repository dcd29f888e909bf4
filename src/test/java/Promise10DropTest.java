/** Promise 10: drop. */
public final class Promise10DropTest {
    private Promise10DropTest() {
    }

    public static void main(String[] args) {
        Tests.run(Promise10DropTest.class);
    }

    private static void argument(Expect expect, Scene scene, int k) {
        Twins.refused(expect, Expect.ARGUMENT, "drop(" + k + ")", scene, v -> v.drop(k));
    }

    /** Versions 1 and 2 of FILE 0 in SNAPSHOTS 1 and 3 (the MAP has version 2, too), version 3 in memory. */
    private static final Scene VERSIONS = vault -> {
        vault.write(0, 0, 1L);
        vault.snapshot(1);
        vault.write(0, 0, 2L);
        vault.snapshot(3);
        vault.write(0, 0, 3L);
    };

    static void promise10InfoIsWrittenWithoutIt(Expect expect) {
        RaidVault vault = VERSIONS.made();
        Layout.counts(expect, "before drop", vault, 2, 593, 1, 10, -1, 150, 0, 1);
        expect.goes("drop", () -> vault.drop(1));
        Layout.counts(expect, "behind drop", vault, 2, 596, 1, 11, -1, 150, 0, 1);
        Layout.numbers(expect, vault, 0, 0, 2, 6, 0, 0, 0, 0, 0, 0, 0, 6);
        expect.argument("size in it", () -> vault.size(1, 0));
        expect.argument("octet in it", () -> vault.octet(1, 0, 0));
        expect.answers("the other SNAPSHOT", 2, () -> vault.octet(3, 0, 7));
        expect.answers("memory", 3, () -> vault.octet(-1, 0, 7));
        Layout.parity(expect, vault, 0);
    }

    static void promise10WhatTheMapHasTooIsNotFree(Expect expect) {
        RaidVault vault = VERSIONS.made();
        expect.goes("drop of what the MAP has, too", () -> vault.drop(3));
        expect.same("FREE PLACES", vault.count(1), 593);
        vault.drop(1);
        expect.same("FREE PLACES without SNAPSHOTS", vault.count(1), 596);
        vault.crash(0, false);
        expect.answers("the MAP's version", 2, () -> vault.octet(-1, 0, 7));
        expect.argument("a dropped SNAPSHOT stays away", () -> vault.size(3, 0));
    }

    static void promise10TheFirstAndTheLastOfFive(Expect expect) {
        RaidVault vault = new RaidVault();
        for (int k = 0; k < 5; k++) {
            vault.write(0, 0, k);
            vault.write(16, 0, k);
            vault.snapshot(k);
        }
        vault.drop(0);
        vault.drop(4);
        for (int i = 1; i < 4; i++) {
            int k = i;
            expect.answers("octet in SNAPSHOT " + k, k, () -> vault.octet(k, 0, 7));
            expect.answers("octet of the other half", k, () -> vault.octet(k, 16, 7));
        }
        expect.argument("SNAPSHOT 0", () -> vault.size(0, 0));
        expect.argument("SNAPSHOT 4", () -> vault.size(4, 0));
        expect.same("FREE PLACES: four versions of six stay", vault.count(1), 599 - 24);
    }

    static void promise10ThereIsNone(Expect expect) {
        for (int k : new int[] {-1, 0, 2, 3, 4, 5, -2, Integer.MIN_VALUE, Integer.MAX_VALUE}) {
            argument(expect, Scene.SOME, k);
        }
        argument(expect, Scene.NEW, 0);
        argument(expect, Scene.NEW, 4);
        argument(expect, VERSIONS.then(v -> v.drop(1)), 1);
        argument(expect, v -> v.snapshot(0), 0);
    }

    static void promise10ItCanBeMadeAnew(Expect expect) {
        RaidVault vault = VERSIONS.then(v -> v.drop(1)).made();
        expect.goes("snapshot", () -> vault.snapshot(1));
        expect.answers("octet in it", 3, () -> vault.octet(1, 0, 7));
    }

    static void promise10NoPointIsMadeWith40Entries(Expect expect) {
        RaidVault vault = Scene.FORTY.made();
        expect.goes("drop", () -> vault.drop(1));
        expect.same("number", vault.count(0), 1);
        expect.same("entries", vault.count(2), 40);
    }

    static void promise10IsNeverFull(Expect expect) {
        RaidVault vault = Scene.FULL_FORTY.made();
        expect.goes("drop when FULL", () -> vault.drop(0));
        expect.same("FREE PLACES", vault.count(1), 11 + 98);
        RaidVault without = Scene.WITHOUT_FREE.made();
        expect.goes("drop without a FREE PLACE", () -> without.drop(4));
        expect.same("FREE PLACES", without.count(1), 98);
    }

    static void promise10IsRefusedWhenBrokenBehindArguments(Expect expect) {
        for (Scene broken : new Scene[] {Scene.BROKEN, Scene.BROKEN_REBUILT}) {
            Twins.refused(expect, Expect.STATE, "drop when BROKEN", broken, v -> v.drop(1));
            argument(expect, broken, 0);
            argument(expect, broken, -1);
            argument(expect, broken, 5);
        }
    }
}
