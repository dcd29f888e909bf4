/** Promise 4: cut. */
public final class Promise04CutTest {
    private Promise04CutTest() {
    }

    public static void main(String[] args) {
        Tests.run(Promise04CutTest.class);
    }

    private static void argument(Expect expect, Scene scene, int file, int n) {
        Twins.refused(expect, Expect.ARGUMENT, "cut(" + file + ", " + n + ")", scene, v -> v.cut(file, n));
    }

    static void promise04TheFirstOctetsAloneStay(Expect expect) {
        RaidVault vault = new RaidVault();
        vault.write(0, 0, 0x0102030405060708L);
        expect.goes("cut to 3", () -> vault.cut(0, 3));
        Layout.octets(expect, vault, 0, 1, 2, 3);
        expect.goes("cut to 1", () -> vault.cut(0, 1));
        Layout.octets(expect, vault, 0, 1);
    }

    static void promise04EveryN(Expect expect) {
        for (int n = 0; n <= 72; n++) {
            RaidVault vault = new RaidVault();
            Layout.grow(vault, 0, 0, 9);
            vault.cut(0, n);
            expect.same("size", vault.size(-1, 0), n);
            for (int at = 0; at < n; at++) {
                expect.same("octet " + at, vault.octet(-1, 0, at), Layout.octet(0, at));
            }
            int end = n;
            expect.outside("octet " + end, () -> vault.octet(-1, 0, end));
        }
    }

    static void promise04To0LeavesAFileOf0Octets(Expect expect) {
        RaidVault vault = Scene.SOME.made();
        expect.goes("cut to 0", () -> vault.cut(0, 0));
        Layout.octets(expect, vault, 0);
        expect.same("it is there still", vault.count(7), 2);
        expect.goes("cut of 0 octets to 0", () -> vault.cut(0, 0));
        Layout.octets(expect, vault, 0);
        argument(expect, Scene.SOME.then(v -> v.cut(0, 0)), 0, 1);
    }

    static void promise04ToAllThatItHas(Expect expect) {
        RaidVault vault = Scene.SOME.made();
        expect.goes("cut to 48 of 48", () -> vault.cut(0, 48));
        Layout.grown(expect, vault, -1, 0, 6);
        expect.same("that is an entry, too", vault.count(2), 3);
        argument(expect, Scene.SOME, 0, 49);
        argument(expect, Scene.SOME, 31, 4);
        argument(expect, Scene.SOME, 31, 8);
        argument(expect, Scene.SOME, 0, Integer.MAX_VALUE);
    }

    static void promise04OfTheLongestFile(Expect expect) {
        Scene longest = v -> Layout.grow(v, 9, 0, 56);
        RaidVault vault = longest.made();
        expect.goes("cut to 448", () -> vault.cut(9, 448));
        expect.goes("cut to 447", () -> vault.cut(9, 447));
        expect.answers("size", 447, () -> vault.size(-1, 9));
        argument(expect, longest, 9, 449);
    }

    static void promise04ToLessThan0(Expect expect) {
        argument(expect, Scene.SOME, 0, -1);
        argument(expect, Scene.SOME, 0, Integer.MIN_VALUE);
        argument(expect, Scene.SOME, 5, -1);
    }

    static void promise04FilesAre0To31(Expect expect) {
        RaidVault vault = Scene.SOME.made();
        expect.goes("cut of FILE 0", () -> vault.cut(0, 1));
        expect.goes("cut of FILE 31", () -> vault.cut(31, 1));
        for (int file : new int[] {-1, 32, Integer.MIN_VALUE, Integer.MAX_VALUE}) {
            argument(expect, Scene.SOME, file, 0);
            argument(expect, Scene.SOME, file, -1);
        }
    }

    static void promise04OfNone(Expect expect) {
        argument(expect, Scene.NEW, 0, 0);
        argument(expect, Scene.SOME, 5, 0);
        argument(expect, Scene.SOME, 5, 1);
        argument(expect, Scene.SOME.then(v -> v.remove(0)), 0, 0);
    }

    static void promise04WhatWasCutDoesNotComeBack(Expect expect) {
        RaidVault vault = new RaidVault();
        vault.write(0, 0, -1L);
        vault.write(0, 8, -1L);
        vault.cut(0, 1);
        argument(expect, v -> {
            v.write(0, 0, -1L);
            v.cut(0, 1);
        }, 0, 2);
        expect.argument("a write behind the end", () -> vault.write(0, 2, 0L));
        expect.answers("a write at the end", 9, () -> vault.write(0, 1, 0L));
        Layout.octets(expect, vault, 0, 255, 0, 0, 0, 0, 0, 0, 0, 0);
    }

    static void promise04IsRefusedWhenBrokenBehindArguments(Expect expect) {
        for (Scene broken : new Scene[] {Scene.BROKEN, Scene.BROKEN_REBUILT}) {
            Twins.refused(expect, Expect.STATE, "cut when BROKEN", broken, v -> v.cut(0, 48));
            argument(expect, broken, 0, 49);
            argument(expect, broken, 0, -1);
            argument(expect, broken, 5, 0);
            argument(expect, broken, 32, 0);
        }
    }

    static void promise04FullIsLookedAtLast(Expect expect) {
        Twins.refused(expect, Expect.FULL, "cut when FULL", Scene.FULL_FORTY, v -> v.cut(0, 0));
        Twins.refused(expect, Expect.STATE, "cut when BROKEN and FULL", Scene.BROKEN_FULL_FORTY, v -> v.cut(0, 0));
        argument(expect, Scene.FULL_FORTY, 0, 34);
        argument(expect, Scene.BROKEN_FULL_FORTY, 0, 34);
    }

    static void promise04IsNotFullBefore40Entries(Expect expect) {
        RaidVault vault = Scene.FULL.made();
        expect.goes("a cut where a POINT would be FULL", () -> vault.cut(3, 0));
        expect.same("entries", vault.count(2), 5);
    }
}
