/** Promise 16: count. */
public final class Promise16CountTest {
    private Promise16CountTest() {
    }

    public static void main(String[] args) {
        Tests.run(Promise16CountTest.class);
    }

    static void promise16WhatIs0To7(Expect expect) {
        Scene[] scenes = {Scene.NEW, Scene.SOME, Scene.BROKEN};
        for (Scene scene : scenes) {
            for (int what : new int[] {-1, 8, -2, 9, Integer.MIN_VALUE, Integer.MAX_VALUE}) {
                Twins.refused(expect, Expect.ARGUMENT, "count(" + what + ")", scene, v -> v.count(what));
            }
        }
    }

    static void promise16AsCallsGoOn(Expect expect) {
        RaidVault vault = new RaidVault();
        Layout.counts(expect, "of nothing", vault, 0, 599, 0, 0, -1, 150, 0, 0);
        vault.write(0, 0, 1L);
        vault.write(16, 0, 1L);
        Layout.counts(expect, "behind two writes", vault, 0, 599, 2, 0, -1, 150, 0, 2);
        vault.point();
        Layout.counts(expect, "behind a POINT", vault, 1, 593, 0, 7, -1, 150, 0, 2);
        vault.snapshot(0);
        Layout.counts(expect, "behind a SNAPSHOT", vault, 2, 593, 0, 9, -1, 150, 0, 2);
        vault.remove(16);
        vault.fail(4);
        Layout.counts(expect, "with FAILED DISK 4", vault, 2, 593, 1, 9, 4, 0, 0, 1);
        vault.point();
        Layout.counts(expect, "with what the SNAPSHOT keeps", vault, 3, 592, 0, 11, 4, 0, 0, 1);
        vault.replace();
        vault.rebuild(11);
        Layout.counts(expect, "while REBUILT", vault, 3, 592, 0, 11, 4, 11, 0, 1);
        vault.drop(0);
        Layout.counts(expect, "without the SNAPSHOT", vault, 3, 595, 0, 12, 4, 11, 0, 1);
        vault.write(3, 0, 0L);
        vault.fail(0);
        Layout.counts(expect, "when BROKEN", vault, 3, 595, 1, 12, 4, 11, 1, 2);
    }

    static void promise16FreePlacesFrom599To0(Expect expect) {
        expect.same("of a new object", new RaidVault().count(1), 599);
        expect.same("of what is nearly full", Scene.NEARLY_FULL.made().count(1), 11);
        expect.same("of what has none", Scene.WITHOUT_FREE.made().count(1), 0);
    }

    static void promise16FreePlacesDoNotChangeBeforeAPoint(Expect expect) {
        RaidVault vault = new RaidVault();
        Layout.grow(vault, 0, 0, 40);
        expect.same("with 40 entries", vault.count(1), 599);
        vault.crash(11, true);
        expect.same("behind a CRASH in the middle of a POINT", vault.count(1), 599);
    }

    static void promise16EntriesFrom0To40(Expect expect) {
        RaidVault vault = new RaidVault();
        for (int i = 0; i < 40; i++) {
            expect.same("entries", vault.count(2), i);
            vault.write(0, 0, i);
        }
        expect.same("entries", vault.count(2), 40);
        vault.write(0, 0, 0L);
        expect.same("entries behind the 41st", vault.count(2), 1);
    }

    static void promise16WritingsInAll(Expect expect) {
        RaidVault vault = new RaidVault();
        vault.point();
        expect.same("INFO of a POINT", vault.count(3), 1);
        vault.snapshot(0);
        expect.same("INFO of a SNAPSHOT, twice", vault.count(3), 3);
        vault.write(0, 0, 1L);
        vault.crash(2, true);
        expect.same("two of a CRASH", vault.count(3), 5);
        vault.crash(100, true);
        expect.same("all four of a CRASH", vault.count(3), 9);
        vault.snapshot(1);
        vault.drop(1);
        expect.same("INFO of drop", vault.count(3), 12);
        vault.fail(0);
        vault.point();
        expect.same("INFO that can not be used", vault.count(3), 13);
        vault.replace();
        vault.rebuild(150);
        expect.same("none of rebuild", vault.count(3), 13);
    }

    static void promise16TheDiskThatIsNotSound(Expect expect) {
        for (int disk = 0; disk < 5; disk++) {
            RaidVault vault = new RaidVault();
            expect.same("without one", vault.count(4), -1);
            expect.same("up to which, without one", vault.count(5), 150);
            vault.fail(disk);
            expect.same("FAILED", vault.count(4), disk);
            expect.same("up to which, FAILED", vault.count(5), 0);
            vault.replace();
            expect.same("REBUILT up to 0", vault.count(4), disk);
            expect.same("up to which, replaced", vault.count(5), 0);
            vault.rebuild(149);
            expect.same("REBUILT up to 149", vault.count(4), disk);
            expect.same("up to which, of 149", vault.count(5), 149);
            vault.rebuild(1);
            expect.same("SOUND", vault.count(4), -1);
            expect.same("up to which, SOUND", vault.count(5), 150);
        }
    }

    static void promise16AsTheyWereWhenBroken(Expect expect) {
        RaidVault before = Scene.FAILED.made();
        RaidVault vault = Scene.BROKEN.made();
        for (int what = 0; what < 8; what++) {
            expect.same("count(" + what + ")", vault.count(what), what == 6 ? 1 : before.count(what));
        }
        RaidVault rebuilt = Scene.BROKEN_REBUILT.made();
        expect.same("the DISK that is not SOUND", rebuilt.count(4), 2);
        expect.same("up to which it is REBUILT", rebuilt.count(5), 1);
        Layout.counts(expect, "when BROKEN with 40 entries", Scene.FORTY.then(v -> {
            v.fail(4);
            v.fail(3);
        }).made(), 1, 592, 40, 9, 4, 0, 1, 3);
    }

    static void promise16FilesFrom0To32(Expect expect) {
        RaidVault vault = new RaidVault();
        for (int file = 0; file < 32; file++) {
            expect.same("FILES", vault.count(7), file);
            vault.write(file, 0, 1L);
        }
        expect.same("all FILES", vault.count(7), 32);
        vault.cut(31, 0);
        expect.same("one of 0 octets is there", vault.count(7), 32);
        vault.remove(31);
        expect.same("one that was removed is not", vault.count(7), 31);
        vault.snapshot(0);
        vault.remove(0);
        expect.same("one that a SNAPSHOT alone has is not", vault.count(7), 30);
        vault.crash(0, false);
        expect.same("behind a CRASH", vault.count(7), 31);
    }
}
