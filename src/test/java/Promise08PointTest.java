/** Promise 8: point. */
public final class Promise08PointTest {
    private Promise08PointTest() {
    }

    public static void main(String[] args) {
        Tests.run(Promise08PointTest.class);
    }

    static void promise08AnswersItsNumber(Expect expect) {
        RaidVault vault = new RaidVault();
        expect.answers("the first one", 1, vault::point);
        vault.write(0, 0, 1L);
        expect.answers("the second one", 2, vault::point);
        vault.snapshot(0);
        expect.answers("behind that of a SNAPSHOT", 4, vault::point);
        vault.crash(1, true);
        expect.answers("behind that of a CRASH", 6, vault::point);
        expect.same("number of the latest one", vault.count(0), 6);
    }

    static void promise08BehindThatOfThe41stEntry(Expect expect) {
        RaidVault vault = Scene.FORTY.made();
        expect.same("number with 40 entries", vault.count(0), 1);
        vault.write(7, 0, 1L);
        expect.answers("behind that of the 41st entry", 3, vault::point);
    }

    static void promise08WithNothingChangedInfoAloneIsWritten(Expect expect) {
        RaidVault vault = new RaidVault();
        vault.point();
        vault.point();
        Layout.counts(expect, "behind two POINTS of nothing", vault, 2, 599, 0, 2, -1, 150, 0, 0);
        Layout.numbers(expect, vault, 0, 0, 2);
        Layout.words(expect, vault, 1);
        Layout.parity(expect, vault, 0);
    }

    static void promise08TheLogIsEmptyBehindIt(Expect expect) {
        RaidVault vault = Scene.FORTY.made();
        expect.same("entries", vault.count(2), 40);
        vault.point();
        expect.same("entries behind it", vault.count(2), 0);
        Layout.grown(expect, vault, -1, 0, 6);
        vault.crash(0, true);
        Layout.grown(expect, vault, -1, 0, 6);
        expect.answers("the other FILE", 3, () -> vault.size(-1, 31));
        expect.answers("the FILE of 38 writes", 37, () -> vault.octet(-1, 7, 7));
    }

    static void promise08TheNumberBehind255(Expect expect) {
        RaidVault vault = new RaidVault();
        for (int i = 1; i <= 255; i++) {
            int number = i;
            expect.answers("POINT " + number, number, vault::point);
        }
        expect.answers("number 255 as it stands", 0x000000FF00000000L, () -> vault.block(0, 0, 0));
        expect.answers("POINT 256", 256, vault::point);
        expect.answers("number 256 as it stands", 0x0000010000000000L, () -> vault.block(0, 0, 0));
        vault.crash(0, false);
        expect.same("number 256 read back", vault.count(0), 256);
        expect.answers("POINT 257", 257, vault::point);
    }

    static void promise08As512Calls(Expect expect) {
        RaidVault vault = new RaidVault();
        for (int i = 1; i < 512; i++) {
            vault.point();
        }
        expect.answers("the 512th call", 512, vault::point);
    }

    static void promise08IsRefusedWhenBroken(Expect expect) {
        Twins.refused(expect, Expect.STATE, "point when BROKEN", Scene.BROKEN, RaidVault::point);
        Twins.refused(expect, Expect.STATE, "point when BROKEN while REBUILT", Scene.BROKEN_REBUILT, RaidVault::point);
        Scene nothingChanged = v -> {
            v.fail(0);
            v.fail(1);
        };
        Twins.refused(expect, Expect.STATE, "point of nothing when BROKEN", nothingChanged, RaidVault::point);
    }

    static void promise08IsRefusedWhenFull(Expect expect) {
        Twins.refused(expect, Expect.FULL, "point when FULL", Scene.FULL, RaidVault::point);
        Twins.refused(expect, Expect.FULL, "point when FULL with 40 entries", Scene.FULL_FORTY, RaidVault::point);
        Twins.refused(expect, Expect.STATE, "point when BROKEN and FULL", Scene.BROKEN_FULL_FORTY, RaidVault::point);
    }

    static void promise08WhatWasRefusedTakesNoNumber(Expect expect) {
        RaidVault vault = Scene.FULL.made();
        int number = vault.count(0);
        expect.full("point", vault::point);
        expect.full("point again", vault::point);
        vault.drop(2);
        expect.answers("a POINT behind drop", number + 1, vault::point);
    }
}
