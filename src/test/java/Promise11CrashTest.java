/** Promise 11: crash. */
public final class Promise11CrashTest {
    private Promise11CrashTest() {
    }

    public static void main(String[] args) {
        Tests.run(Promise11CrashTest.class);
    }

    private static void crash(Expect expect, RaidVault vault, int n, boolean log, boolean made) {
        expect.answers("crash(" + n + ", " + log + ")", made ? 1 : 0, () -> vault.crash(n, log) ? 1 : 0);
    }

    /** What each WRITING of a POINT brings, one more with each CRASH; the LOG makes it possible. */
    static void promise11BehindEachWriting(Expect expect) {
        RaidVault vault = new RaidVault();
        vault.write(0, 0, 10L);
        vault.write(16, 0, 11L);
        int writings = 0;
        for (int n = 0; n < 7; n++) {
            crash(expect, vault, n, true, false);
            writings += n;
            Layout.counts(expect, "behind " + n + " WRITINGS", vault, 0, 599, 2, writings, -1, 150, 0, 2);
            Layout.words(expect, vault, 1, n >= 1 ? 10L : 0L);
            Layout.numbers(expect, vault, 2, n >= 2 ? 8 : 0, n >= 2 ? 1 : 0);
            Layout.words(expect, vault, 3, n >= 3 ? 11L : 0L);
            Layout.numbers(expect, vault, 4, n >= 4 ? 8 : 0, n >= 4 ? 3 : 0);
            Layout.words(expect, vault, 5, n >= 5 ? 0x0002000000000000L : 0L);
            Layout.words(expect, vault, 6, n >= 6 ? 0x0004000000000000L : 0L);
        }
        Layout.words(expect, vault, 0);
        crash(expect, vault, 7, true, true);
        Layout.counts(expect, "behind all WRITINGS", vault, 1, 593, 0, writings + 7, -1, 150, 0, 2);
    }

    static void promise11AllButTheLastWritingIsNoPoint(Expect expect) {
        for (boolean log : new boolean[] {true, false}) {
            crash(expect, Scene.SOME.made(), 5, log, false);
            crash(expect, Scene.SOME.made(), 6, log, true);
            crash(expect, Scene.SOME.made(), 7, log, true);
            crash(expect, Scene.SOME.made(), Integer.MAX_VALUE, log, true);
        }
        RaidVault vault = Scene.SOME.made();
        int writings = vault.count(3);
        vault.crash(Integer.MAX_VALUE, true);
        expect.same("WRITINGS of FILE 0's PIECE, two INODES, two halves, INFO", vault.count(3), writings + 6);
    }

    static void promise11NIsNotBelow0(Expect expect) {
        for (boolean log : new boolean[] {true, false}) {
            Twins.refused(expect, Expect.ARGUMENT, "crash(-1)", Scene.SOME, v -> v.crash(-1, log));
            Twins.refused(expect, Expect.ARGUMENT, "the least n", Scene.SOME, v -> v.crash(Integer.MIN_VALUE, log));
            Twins.refused(expect, Expect.ARGUMENT, "crash(-1) of nothing", Scene.NEW, v -> v.crash(-1, log));
        }
    }

    static void promise11BehindNoWriting(Expect expect) {
        Twins.same(expect, "behind crash(0, true)", Scene.SOME.then(v -> v.crash(0, true)), Scene.SOME);
        RaidVault vault = Scene.SOME.made();
        crash(expect, vault, 0, false, false);
        Layout.counts(expect, "behind crash(0, false)", vault, 1, 592, 0, 9, -1, 150, 0, 2);
        Layout.grown(expect, vault, -1, 0, 5);
        Layout.grown(expect, vault, -1, 31, 1);
    }

    static void promise11WithNothingChanged(Expect expect) {
        RaidVault vault = new RaidVault();
        crash(expect, vault, 0, true, false);
        expect.same("number behind no WRITING", vault.count(0), 0);
        crash(expect, vault, 1, true, true);
        crash(expect, vault, Integer.MAX_VALUE, false, true);
        Layout.counts(expect, "behind two POINTS", vault, 2, 599, 0, 2, -1, 150, 0, 0);
        Layout.numbers(expect, vault, 0, 0, 2);
    }

    static void promise11ThePointThatWasMadeIsAsPointMakesIt(Expect expect) {
        for (boolean log : new boolean[] {true, false}) {
            Scene crashed = Scene.SOME.then(v -> v.crash(6, log));
            Twins.same(expect, "behind a CRASH that made a POINT", crashed, Scene.SOME.then(RaidVault::point));
        }
    }

    static void promise11TheLogStays(Expect expect) {
        RaidVault vault = new RaidVault();
        Layout.grow(vault, 3, 0, 6);
        vault.point();
        vault.cut(3, 33);
        vault.write(3, 33, -1L);
        vault.write(4, 0, 9L);
        vault.remove(4);
        vault.write(5, 0, 5L);
        crash(expect, vault, 2, true, false);
        Layout.counts(expect, "with the LOG", vault, 1, 595, 5, 5 + 2, -1, 150, 0, 2);
        expect.answers("size", 41, () -> vault.size(-1, 3));
        expect.answers("octet before the cut", Layout.octet(3, 32), () -> vault.octet(-1, 3, 32));
        expect.answers("octet behind the cut", 255, () -> vault.octet(-1, 3, 40));
        expect.answers("FILE 4", -1, () -> vault.size(-1, 4));
        expect.answers("a POINT has it all", 2, vault::point);
        expect.same("WRITINGS of two FILES with one half", vault.count(3), 5 + 2 + 6);
        crash(expect, vault, 0, false, false);
        expect.answers("size from the DISKS", 41, () -> vault.size(-1, 3));
        expect.answers("FILE 5 from the DISKS", 5, () -> vault.octet(-1, 5, 7));
    }

    static void promise11TheLogIsGone(Expect expect) {
        RaidVault vault = new RaidVault();
        vault.write(3, 0, 1L);
        vault.point();
        vault.write(3, 8, 2L);
        vault.write(9, 0, 3L);
        crash(expect, vault, 3, false, false);
        Layout.counts(expect, "without the LOG", vault, 1, 596, 0, 4 + 3, -1, 150, 0, 1);
        expect.answers("size as in the POINT", 8, () -> vault.size(-1, 3));
        expect.answers("no FILE 9", -1, () -> vault.size(-1, 9));
        expect.answers("nothing is changed any more", 2, vault::point);
        expect.same("so INFO alone is written", vault.count(3), 4 + 3 + 1);
        vault.write(9, 0, 3L);
        crash(expect, vault, 4, false, true);
        expect.answers("a POINT that was made stays without the LOG", 3, () -> vault.octet(-1, 9, 7));
    }

    static void promise11With40EntriesInTheirOrder(Expect expect) {
        RaidVault vault = new RaidVault();
        for (int i = 0; i < 40; i++) {
            vault.write(i % 3, 0, i);
        }
        crash(expect, vault, 4, true, false);
        expect.same("entries", vault.count(2), 40);
        expect.answers("the latest write of FILE 0", 39, () -> vault.octet(-1, 0, 7));
        expect.answers("the latest write of FILE 1", 37, () -> vault.octet(-1, 1, 7));
        expect.answers("the latest write of FILE 2", 38, () -> vault.octet(-1, 2, 7));
        vault.write(0, 8, 1L);
        expect.same("a POINT was made before the 41st", vault.count(0), 1);
        expect.same("entries behind it", vault.count(2), 1);
    }

    static void promise11TwiceWithTheLog(Expect expect) {
        Scene twice = Scene.SOME.then(v -> v.crash(0, true)).then(v -> v.crash(0, true));
        Twins.same(expect, "behind two CRASHES", twice, Scene.SOME);
    }

    /** No WRITING of a POINT that is not made harms the one before it, or a SNAPSHOT. */
    static void promise11WhatWasStays(Expect expect) {
        for (int n = 0; n <= 8; n++) {
            RaidVault vault = new RaidVault();
            Layout.grow(vault, 0, 0, 10);
            vault.snapshot(0);
            vault.cut(0, 64);
            vault.point();
            for (int i = 0; i < 8; i++) {
                vault.write(0, 8 * i, -1L);
            }
            vault.write(17, 0, -1L);
            boolean made = n == 8;
            crash(expect, vault, n, false, made);
            Layout.grown(expect, vault, 0, 0, 10);
            if (!made) {
                Layout.grown(expect, vault, -1, 0, 8);
            }
        }
    }

    static void promise11WhatWasNotChangedIsReadBack(Expect expect) {
        RaidVault vault = new RaidVault();
        Layout.grow(vault, 1, 0, 6);
        vault.write(2, 0, 2L);
        vault.point();
        crash(expect, vault, 0, false, false);
        vault.write(2, 0, 5L);
        vault.point();
        crash(expect, vault, 0, false, false);
        vault.write(1, 40, 4L);
        vault.point();
        crash(expect, vault, 0, false, false);
        expect.answers("a FILE beside the one that was changed", 48, () -> vault.size(-1, 1));
        expect.answers("a PIECE that was not written", Layout.octet(1, 7), () -> vault.octet(-1, 1, 7));
        expect.answers("a PIECE that was written", 4, () -> vault.octet(-1, 1, 47));
        expect.answers("the FILE that was changed", 5, () -> vault.octet(-1, 2, 7));
    }

    /** Memory must not know PLACES any more that a POINT took which was not made. */
    static void promise11WhatAPointTookThatWasNotMadeIsForgotten(Expect expect) {
        for (int n = 0; n <= 6; n++) {
            int most = n;
            Scene crashed = vault -> {
                Layout.grow(vault, 0, 0, 5);
                vault.write(16, 0, 16L);
                vault.point();
                vault.write(0, 0, -1L);
                vault.remove(16);
                vault.write(17, 0, 17L);
                vault.crash(most, false);
            };
            RaidVault vault = crashed.made();
            vault.write(0, 32, 3L);
            vault.write(18, 0, 18L);
            vault.point();
            vault.crash(0, false);
            expect.answers("the other PIECE", Layout.octet(0, 7), () -> vault.octet(-1, 0, 7));
            expect.answers("the PIECE that was written", 3, () -> vault.octet(-1, 0, 39));
            expect.answers("the FILE that was removed", 16, () -> vault.octet(-1, 16, 7));
            expect.answers("the FILE that was made", -1, () -> vault.size(-1, 17));
            Layout.numbers(expect, vault, Layout.inode(vault, 0), 40, 1, 8);
        }
    }

    static void promise11NoPointIsBegunIfItWouldBeFull(Expect expect) {
        Scene crashed = Scene.FULL.then(v -> v.crash(Integer.MAX_VALUE, true));
        crash(expect, Scene.FULL.made(), Integer.MAX_VALUE, true, false);
        Twins.same(expect, "behind a CRASH when FULL", crashed, Scene.FULL);
        RaidVault vault = Scene.FULL.made();
        int writings = vault.count(3);
        crash(expect, vault, Integer.MAX_VALUE, false, false);
        expect.same("WRITINGS", vault.count(3), writings);
        expect.same("entries", vault.count(2), 0);
        expect.answers("what the POINT has", 40, () -> vault.size(-1, 2));
    }

    static void promise11WithJustEnoughPlaces(Expect expect) {
        crash(expect, Scene.JUST_ENOUGH.made(), 11, true, false);
        crash(expect, Scene.JUST_ENOUGH.made(), 12, true, true);
        RaidVault without = Scene.WITHOUT_FREE.made();
        crash(expect, without, 1, true, true);
        expect.same("FREE PLACES", without.count(1), 0);
    }

    static void promise11WithADiskFailed(Expect expect) {
        for (int i = 0; i < 5; i++) {
            int disk = i;
            RaidVault vault = Scene.SOME.then(v -> v.fail(disk)).made();
            crash(expect, vault, 5, true, false);
            Layout.grown(expect, vault, -1, 0, 6);
            crash(expect, vault, 5, false, false);
            Layout.grown(expect, vault, -1, 0, 5);
            expect.same("the DISK is FAILED still", vault.count(4), disk);
        }
    }

    static void promise11IsRefusedWhenBrokenBehindArguments(Expect expect) {
        for (Scene broken : new Scene[] {Scene.BROKEN, Scene.BROKEN_REBUILT, Scene.BROKEN_FULL_FORTY}) {
            for (boolean log : new boolean[] {true, false}) {
                Twins.refused(expect, Expect.STATE, "crash when BROKEN", broken, v -> v.crash(0, log));
                Twins.refused(expect, Expect.STATE, "crash when BROKEN", broken, v -> v.crash(9, log));
                Twins.refused(expect, Expect.ARGUMENT, "crash(-1) when BROKEN", broken, v -> v.crash(-1, log));
            }
        }
    }
}
