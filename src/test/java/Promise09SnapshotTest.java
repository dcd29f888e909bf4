/** Promise 9: snapshot. */
public final class Promise09SnapshotTest {
    private Promise09SnapshotTest() {
    }

    public static void main(String[] args) {
        Tests.run(Promise09SnapshotTest.class);
    }

    private static void argument(Expect expect, Scene scene, int k) {
        Twins.refused(expect, Expect.ARGUMENT, "snapshot(" + k + ")", scene, v -> v.snapshot(k));
    }

    static void promise09KIs0To4(Expect expect) {
        for (int i = 0; i < 5; i++) {
            int k = i;
            RaidVault vault = Scene.SOME.made();
            expect.goes("snapshot " + k, () -> vault.snapshot(k));
            expect.answers("size in it", 48, () -> vault.size(k, 0));
        }
        for (int k : new int[] {-1, 5, -2, 6, Integer.MIN_VALUE, Integer.MAX_VALUE}) {
            argument(expect, Scene.SOME, k);
            argument(expect, Scene.NEW, k);
        }
    }

    static void promise09APointIsMadeAndInfoWrittenAgain(Expect expect) {
        RaidVault vault = new RaidVault();
        vault.write(0, 0, 1L);
        vault.write(31, 0, 2L);
        vault.snapshot(0);
        Layout.numbers(expect, vault, 0, 0, 1, 5, 6, 5, 6);
        Layout.counts(expect, "behind a SNAPSHOT", vault, 1, 593, 0, 8, -1, 150, 0, 2);
        vault.snapshot(2);
        Layout.numbers(expect, vault, 0, 0, 2, 5, 6, 5, 6, 0, 0, 5, 6);
        Layout.counts(expect, "behind one with nothing changed", vault, 2, 593, 0, 10, -1, 150, 0, 2);
        Layout.parity(expect, vault, 0);
    }

    static void promise09With40EntriesOnePointIsMade(Expect expect) {
        RaidVault vault = Scene.FORTY.made();
        vault.snapshot(0);
        expect.same("number", vault.count(0), 2);
        expect.same("entries", vault.count(2), 0);
        expect.answers("what the 40 entries changed", 37, () -> vault.octet(0, 7, 7));
    }

    static void promise09ItKeepsWhatWas(Expect expect) {
        RaidVault vault = new RaidVault();
        Layout.grow(vault, 0, 0, 5);
        vault.write(31, 0, 2L);
        vault.snapshot(0);
        vault.remove(0);
        vault.write(31, 0, 3L);
        vault.snapshot(4);
        vault.write(31, 0, 4L);
        for (int i = 0; i < 8; i++) {
            vault.write(9, 0, i);
            vault.point();
        }
        vault.crash(0, false);
        Layout.grown(expect, vault, 0, 0, 5);
        expect.answers("size in SNAPSHOT 4", -1, () -> vault.size(4, 0));
        expect.answers("octet in SNAPSHOT 0", 2, () -> vault.octet(0, 31, 7));
        expect.answers("octet in SNAPSHOT 4", 3, () -> vault.octet(4, 31, 7));
        expect.answers("octet now", 4, () -> vault.octet(-1, 31, 7));
        expect.argument("SNAPSHOT 1", () -> vault.size(1, 0));
    }

    static void promise09AnewIfItIsThere(Expect expect) {
        RaidVault vault = new RaidVault();
        vault.write(0, 0, 1L);
        vault.snapshot(2);
        vault.write(0, 0, 2L);
        expect.goes("the same one anew", () -> vault.snapshot(2));
        expect.answers("octet in it", 2, () -> vault.octet(2, 0, 7));
        Layout.numbers(expect, vault, 0, 0, 2, 6, 0, 0, 0, 0, 0, 6);
        expect.same("what it had is FREE", vault.count(1), 596);
        vault.write(0, 0, 3L);
        vault.point();
        Layout.words(expect, vault, 1, 3L);
        expect.same("FREE PLACES with two versions", vault.count(1), 593);
    }

    static void promise09WhatItHadIsNotFreeForItsOwnPoint(Expect expect) {
        RaidVault vault = new RaidVault();
        vault.write(0, 0, 1L);
        vault.snapshot(2);
        vault.write(0, 0, 2L);
        vault.snapshot(2);
        Layout.words(expect, vault, 1, 1L);
        Layout.words(expect, vault, 4, 2L);
        Layout.numbers(expect, vault, 5, 8, 4);
        Layout.numbers(expect, vault, 6, 5);
        RaidVault full = Scene.FULL.made();
        expect.full("one anew whose PLACES would be enough", () -> full.snapshot(0));
    }

    static void promise09OfAnEmptyMapThereIsNone(Expect expect) {
        RaidVault vault = new RaidVault();
        expect.goes("a SNAPSHOT of nothing", () -> vault.snapshot(0));
        Layout.counts(expect, "behind it", vault, 1, 599, 0, 2, -1, 150, 0, 0);
        Layout.numbers(expect, vault, 0, 0, 1);
        expect.argument("size in it", () -> vault.size(0, 0));
        expect.argument("drop of it", () -> vault.drop(0));
    }

    static void promise09OfOneHalfThereIsOne(Expect expect) {
        RaidVault first = new RaidVault();
        first.write(0, 0, 1L);
        first.snapshot(0);
        Layout.numbers(expect, first, 0, 0, 1, 3, 0, 3);
        expect.answers("a FILE of the first half", 8, () -> first.size(0, 0));
        expect.answers("a FILE of the half that is none", -1, () -> first.size(0, 16));
        expect.goes("drop of it", () -> first.drop(0));
        RaidVault second = new RaidVault();
        second.write(16, 0, 1L);
        second.snapshot(0);
        Layout.numbers(expect, second, 0, 0, 1, 0, 3, 0, 3);
        expect.answers("a FILE of the half that is none", -1, () -> second.size(0, 0));
        expect.answers("a FILE of the second half", 8, () -> second.size(0, 16));
        expect.goes("drop of it", () -> second.drop(0));
    }

    static void promise09OfFilesThatAreGoneThereIsOne(Expect expect) {
        RaidVault vault = new RaidVault();
        vault.write(20, 0, 1L);
        vault.remove(20);
        vault.snapshot(1);
        expect.answers("a FILE that is none", -1, () -> vault.size(1, 20));
        Layout.numbers(expect, vault, 0, 0, 1, 0, 1, 0, 0, 0, 1);
    }

    static void promise09AllFive(Expect expect) {
        RaidVault vault = new RaidVault();
        for (int k = 0; k < 5; k++) {
            vault.write(0, 0, k);
            vault.snapshot(k);
        }
        vault.write(0, 0, 5L);
        vault.point();
        Layout.numbers(expect, vault, 0, 0, 6, 18, 0, 3, 0, 6, 0, 9, 0, 12, 0, 15);
        expect.same("FREE PLACES", vault.count(1), 599 - 18);
        for (int i = 0; i < 5; i++) {
            int k = i;
            expect.answers("octet in SNAPSHOT " + k, k, () -> vault.octet(k, 0, 7));
        }
    }

    static void promise09IsRefusedWhenBrokenBehindArguments(Expect expect) {
        for (Scene broken : new Scene[] {Scene.BROKEN, Scene.BROKEN_REBUILT}) {
            Twins.refused(expect, Expect.STATE, "snapshot when BROKEN", broken, v -> v.snapshot(0));
            Twins.refused(expect, Expect.STATE, "snapshot anew when BROKEN", broken, v -> v.snapshot(1));
            argument(expect, broken, -1);
            argument(expect, broken, 5);
        }
    }

    static void promise09FullIsLookedAtLast(Expect expect) {
        for (int i = 0; i < 5; i++) {
            int k = i;
            Twins.refused(expect, Expect.FULL, "snapshot when FULL", Scene.FULL, v -> v.snapshot(k));
        }
        Twins.refused(expect, Expect.STATE, "snapshot when BROKEN and FULL", Scene.BROKEN_FULL_FORTY, v -> v.snapshot(0));
        argument(expect, Scene.FULL, 5);
        argument(expect, Scene.FULL, -1);
    }

    static void promise09WithoutAFreePlace(Expect expect) {
        RaidVault vault = Scene.WITHOUT_FREE.made();
        expect.same("FREE PLACES", vault.count(1), 0);
        expect.goes("a SNAPSHOT with nothing changed", () -> vault.snapshot(3));
        expect.same("FREE PLACES behind it", vault.count(1), 98);
        expect.answers("octet in it", 5, () -> vault.octet(3, 31, 35));
    }
}
