/** Terms 3: the LOG, what a POINT writes and in which order, what is FULL, and what a SNAPSHOT and a CRASH do. */
public final class Terms3PointTest {
    private Terms3PointTest() {
    }

    public static void main(String[] args) {
        Tests.run(Terms3PointTest.class);
    }

    private interface Entry {
        void enter(RaidVault vault, int i);
    }

    /** The first 40 entries make no POINT, the next one does before it. */
    private static void entries(Expect expect, String what, Scene scene, Entry entry) {
        RaidVault vault = scene.made();
        int number = vault.count(0);
        for (int i = 0; i < 40; i++) {
            entry.enter(vault, i);
            expect.same("entries behind each " + what, vault.count(2), i + 1);
            expect.same("number behind each " + what, vault.count(0), number);
        }
        entry.enter(vault, 40);
        expect.same("entries behind the 41st " + what, vault.count(2), 1);
        expect.same("number behind the 41st " + what, vault.count(0), number + 1);
    }

    static void term3Promise03TheLogHas40Writes(Expect expect) {
        entries(expect, "write", Scene.NEW, (v, i) -> v.write(3, 8 * i, i));
    }

    static void term3Promise04TheLogHas40Cuts(Expect expect) {
        Scene file = v -> {
            Layout.grow(v, 3, 0, 8);
            v.point();
        };
        entries(expect, "cut", file, (v, i) -> v.cut(3, 60 - i));
    }

    static void term3Promise05TheLogHas40WithRemoves(Expect expect) {
        entries(expect, "remove", v -> {
            v.write(3, 0, 1L);
            v.point();
        }, (v, i) -> {
            if (i % 2 == 0) {
                v.remove(3);
            } else {
                v.write(3, 0, i);
            }
        });
    }

    static void term3Promise03The41stIsBehindThePoint(Expect expect) {
        RaidVault vault = new RaidVault();
        Layout.grow(vault, 0, 0, 40);
        Layout.counts(expect, "with 40 entries", vault, 0, 599, 40, 0, -1, 150, 0, 1);
        expect.answers("the 41st", 328, () -> vault.write(0, 320, 0L));
        Layout.counts(expect, "with a 41st", vault, 1, 587, 1, 13, -1, 150, 0, 1);
        expect.same("octets that the POINT has", Layout.number(vault, Layout.inode(vault, 0), 0), 320);
        vault.crash(0, false);
        Layout.grown(expect, vault, -1, 0, 40);
    }

    static void term3Promise05The41stIsBehindThePoint(Expect expect) {
        RaidVault vault = Scene.FORTY.made();
        vault.remove(7);
        expect.same("the POINT has it", Layout.inode(vault, 7) != 0 ? 1 : 0, 1);
        expect.answers("memory has it not", -1, () -> vault.size(-1, 7));
        vault.crash(0, true);
        expect.answers("nor behind a CRASH", -1, () -> vault.size(-1, 7));
        vault.crash(0, false);
        expect.answers("without the LOG it is there", 8, () -> vault.size(-1, 7));
    }

    static void term3Promise03ARefusedCallMakesNoPoint(Expect expect) {
        Twins.refused(expect, Expect.ARGUMENT, "a write", Scene.FORTY, v -> v.write(0, 49, 0L));
        Twins.refused(expect, Expect.ARGUMENT, "a cut", Scene.FORTY, v -> v.cut(0, 49));
        Twins.refused(expect, Expect.ARGUMENT, "a remove", Scene.FORTY, v -> v.remove(1));
        Twins.refused(expect, Expect.ARGUMENT, "a SNAPSHOT", Scene.FORTY, v -> v.snapshot(5));
        Twins.refused(expect, Expect.ARGUMENT, "a CRASH", Scene.FORTY, v -> v.crash(-1, true));
    }

    static void term3Promise08InOrder(Expect expect) {
        RaidVault vault = new RaidVault();
        vault.write(17, 0, 17L);
        vault.write(2, 0, 2L);
        Layout.grow(vault, 1, 0, 5);
        vault.point();
        Layout.words(expect, vault, 1, Layout.value(1, 0), Layout.value(1, 1), Layout.value(1, 2), Layout.value(1, 3));
        Layout.words(expect, vault, 2, Layout.value(1, 4));
        Layout.numbers(expect, vault, 3, 40, 1, 2);
        Layout.words(expect, vault, 4, 2L);
        Layout.numbers(expect, vault, 5, 8, 4);
        Layout.words(expect, vault, 6, 17L);
        Layout.numbers(expect, vault, 7, 8, 6);
        Layout.numbers(expect, vault, 8, 0, 3, 5);
        Layout.numbers(expect, vault, 9, 0, 7);
        Layout.numbers(expect, vault, 0, 0, 1, 8, 9);
        Layout.counts(expect, "behind a POINT", vault, 1, 590, 0, 10, -1, 150, 0, 3);
    }

    static void term3Promise08FreshIsTheLeastThatIsFree(Expect expect) {
        RaidVault vault = new RaidVault();
        vault.write(0, 0, 1L);
        vault.write(16, 0, 2L);
        vault.point();
        Layout.numbers(expect, vault, 0, 0, 1, 5, 6);
        vault.write(0, 0, 3L);
        vault.point();
        Layout.words(expect, vault, 7, 3L);
        Layout.numbers(expect, vault, 8, 8, 7);
        Layout.numbers(expect, vault, 9, 8);
        Layout.numbers(expect, vault, 0, 0, 2, 9, 6);
        Layout.words(expect, vault, 1, 1L);
        vault.write(16, 8, 4L);
        vault.point();
        Layout.words(expect, vault, 1, 2L, 4L);
        Layout.numbers(expect, vault, 2, 16, 1);
        Layout.numbers(expect, vault, 5, 2);
        Layout.numbers(expect, vault, 0, 0, 3, 9, 5);
        expect.same("WRITINGS", vault.count(3), 7 + 4 + 4);
    }

    static void term3Promise08WhatACrashLeftIsTakenAnew(Expect expect) {
        RaidVault vault = new RaidVault();
        vault.write(0, 0, 1L);
        vault.crash(3, false);
        vault.write(1, 0, 2L);
        vault.point();
        Layout.words(expect, vault, 1, 2L);
        Layout.numbers(expect, vault, 2, 8, 1);
        Layout.numbers(expect, vault, 3, 0, 2);
    }

    static void term3Promise08FilesChangedSinceTheLatestPointAlone(Expect expect) {
        RaidVault vault = Scene.SOME.made();
        vault.point();
        int writings = vault.count(3);
        vault.point();
        expect.same("WRITINGS with nothing changed", vault.count(3), writings + 1);
        vault.write(5, 0, 1L);
        vault.point();
        expect.same("WRITINGS of a PIECE, an INODE, a half, INFO", vault.count(3), writings + 1 + 4);
    }

    static void term3Promise03EachPieceThatWasWrittenAlone(Expect expect) {
        int[] at = {0, 24, 25, 31, 32, 56, 57, 63, 64, 88};
        int[] pieces = {1, 1, 2, 2, 1, 1, 2, 2, 1, 1};
        for (int i = 0; i < at.length; i++) {
            RaidVault vault = new RaidVault();
            Layout.grow(vault, 0, 0, 12);
            vault.point();
            vault.write(0, at[i], -1L);
            vault.point();
            expect.same("WRITINGS of a write at " + at[i], vault.count(3), 6 + pieces[i] + 3);
            int inode = Layout.inode(vault, 0);
            for (int piece = 0; piece < 3; piece++) {
                boolean written = piece == at[i] / 32 || piece == (at[i] + 7) / 32;
                int moved = Layout.number(vault, inode, 1 + piece) != 1 + piece ? 1 : 0;
                expect.same("PIECE " + piece + " has moved", moved, written ? 1 : 0);
            }
        }
    }

    static void term3Promise04ACutWritesNoPiece(Expect expect) {
        RaidVault vault = new RaidVault();
        Layout.grow(vault, 0, 0, 12);
        vault.point();
        vault.cut(0, 40);
        vault.point();
        Layout.numbers(expect, vault, 6, 40, 1, 2);
        expect.same("WRITINGS of a cut: INODE, half and INFO", vault.count(3), 6 + 3);
        vault.cut(0, 40);
        vault.point();
        expect.same("a cut to as many octets is a change, too", vault.count(3), 6 + 3 + 3);
    }

    static void term3Promise04AWrittenPieceThatIsCutOffIsNotWritten(Expect expect) {
        RaidVault vault = new RaidVault();
        Layout.grow(vault, 0, 0, 5);
        vault.point();
        vault.write(0, 32, -1L);
        vault.cut(0, 32);
        vault.point();
        expect.same("WRITINGS with the PIECE cut off", vault.count(3), 5 + 3);
        vault.write(0, 32, -1L);
        vault.cut(0, 33);
        vault.point();
        expect.same("WRITINGS with an octet of it left", vault.count(3), 5 + 3 + 4);
        vault.write(0, 33, -1L);
        vault.cut(0, 0);
        vault.write(0, 0, 7L);
        vault.point();
        expect.same("WRITINGS of what was cut to 0 and written", vault.count(3), 5 + 3 + 4 + 4);
        Layout.words(expect, vault, Layout.number(vault, Layout.inode(vault, 0), 1), 7L);
    }

    static void term3Promise08AnInodeIfTheFileIsNotNone(Expect expect) {
        RaidVault empty = new RaidVault();
        empty.write(3, 0, 1L);
        empty.cut(3, 0);
        empty.point();
        Layout.numbers(expect, empty, 1);
        Layout.numbers(expect, empty, 2, 0, 0, 0, 1);
        Layout.counts(expect, "with a FILE of 0 octets", empty, 1, 597, 0, 3, -1, 150, 0, 1);
        RaidVault gone = new RaidVault();
        gone.write(3, 0, 1L);
        gone.remove(3);
        gone.point();
        Layout.numbers(expect, gone, 0, 0, 1, 1);
        Layout.numbers(expect, gone, 1);
        Layout.counts(expect, "with a FILE that is gone", gone, 1, 598, 0, 2, -1, 150, 0, 0);
    }

    static void term3Promise05WhatWasRemovedAndMadeAnewHasNewPiecesAlone(Expect expect) {
        RaidVault vault = new RaidVault();
        Layout.grow(vault, 20, 0, 9);
        vault.point();
        vault.write(20, 64, -1L);
        vault.remove(20);
        vault.write(20, 0, 6L);
        vault.point();
        expect.same("WRITINGS: PIECE, INODE, half, INFO", vault.count(3), 6 + 4);
        int inode = Layout.inode(vault, 20);
        Layout.numbers(expect, vault, inode, 8, 6);
        Layout.words(expect, vault, 6, 6L);
    }

    static void term3Promise08EachHalfInWhichAFileWasChanged(Expect expect) {
        int[] files = {0, 15, 16, 31};
        for (int file : files) {
            RaidVault vault = new RaidVault();
            vault.write(file, 0, 1L);
            vault.point();
            Layout.numbers(expect, vault, 0, 0, 1, file < 16 ? 3 : 0, file < 16 ? 0 : 3);
            expect.same("WRITINGS", vault.count(3), 4);
        }
    }

    static void term3Promise08JustEnoughPlaces(Expect expect) {
        RaidVault vault = Scene.JUST_ENOUGH.made();
        expect.same("FREE PLACES", vault.count(1), 11);
        int before = vault.count(3);
        expect.goes("a POINT that takes the last PLACE", vault::point);
        expect.same("WRITINGS", vault.count(3) - before, 12);
        for (int k = 0; k < 5; k++) {
            expect.same("an octet of SNAPSHOT " + k, vault.octet(k, 16, 35), k);
        }
        vault.crash(0, false);
        expect.same("an octet now", vault.octet(-1, 16, 35), 255);
        expect.same("an octet of what was not changed", vault.octet(-1, 15, 35), 5);
    }

    static void term3Promise08ARemoveNeedsNoInode(Expect expect) {
        RaidVault vault = Scene.JUST_ENOUGH.then(v -> v.remove(31)).made();
        expect.goes("a POINT that takes the last PLACE", vault::point);
        expect.same("FILES", vault.count(7), 31);
    }

    static void term3Promise08OnePlaceTooFew(Expect expect) {
        Scene[] oneMore = {v -> v.cut(2, 3), v -> v.cut(2, 40), v -> v.cut(31, 0)};
        for (Scene change : oneMore) {
            Twins.refused(expect, Expect.FULL, "an INODE more", Scene.JUST_ENOUGH.then(change), RaidVault::point);
        }
        Scene tenAndTwo = Scene.NEARLY_FULL.then(v -> {
            v.write(0, 28, -1L);
            v.write(1, 28, -1L);
            v.cut(2, 0);
            v.write(3, 0, -1L);
            v.remove(4);
        });
        expect.goes("two PIECES twice, a PIECE, four INODES, a half", () -> tenAndTwo.made().point());
        expect.goes("a half more", () -> tenAndTwo.then(v -> v.remove(16)).made().point());
        Scene pieceMore = tenAndTwo.then(v -> v.remove(16)).then(v -> v.write(3, 28, -1L));
        Twins.refused(expect, Expect.FULL, "a PIECE more", pieceMore, RaidVault::point);
        Scene halfMore = tenAndTwo.then(v -> v.write(3, 28, -1L)).then(v -> v.remove(16));
        Twins.refused(expect, Expect.FULL, "a half more", halfMore, RaidVault::point);
    }

    static void term3Promise08WithoutAFreePlace(Expect expect) {
        RaidVault vault = Scene.WITHOUT_FREE.made();
        int number = vault.count(0);
        expect.answers("a POINT with nothing changed", number + 1, vault::point);
        expect.same("FREE PLACES", vault.count(1), 0);
        expect.goes("remove", () -> vault.remove(0));
        expect.full("a POINT with a half to write", vault::point);
        expect.full("a SNAPSHOT", () -> vault.snapshot(0));
        expect.answers("a CRASH", 0, () -> vault.crash(9, true) ? 1 : 0);
        expect.goes("drop", () -> vault.drop(0));
        expect.answers("a POINT behind it", number + 2, vault::point);
    }

    static void term3Promise09APointThenInfoAgain(Expect expect) {
        RaidVault vault = Scene.SOME.made();
        int writings = vault.count(3);
        vault.snapshot(4);
        expect.same("WRITINGS of six for a POINT, and INFO", vault.count(3), writings + 7);
        expect.same("number", vault.count(0), 2);
        Scene byPoint = Scene.SOME.then(RaidVault::point);
        RaidVault point = byPoint.made();
        for (int i = 2; i < 12; i++) {
            expect.same("number " + i + " in INFO", Layout.number(vault, 0, i), Layout.number(point, 0, i));
        }
        expect.same("its first half", Layout.number(vault, 0, 12), Layout.number(point, 0, 2));
        expect.same("its second half", Layout.number(vault, 0, 13), Layout.number(point, 0, 3));
    }

    static void term3Promise11MemoryIsGoneAndTheLogStaysOrNot(Expect expect) {
        Scene withoutLog = Scene.SOME.then(v -> v.crash(0, false));
        RaidVault vault = withoutLog.made();
        Layout.grown(expect, vault, -1, 0, 5);
        expect.same("entries", vault.count(2), 0);
        Scene withLog = Scene.SOME.then(v -> v.crash(0, true));
        RaidVault kept = withLog.made();
        Layout.grown(expect, kept, -1, 0, 6);
        expect.same("entries", kept.count(2), 2);
        Twins.same(expect, "without the LOG behind a CRASH with it", withLog.then(v -> v.crash(0, false)), withoutLog);
    }

    static void term3Promise11TheLogOfForty(Expect expect) {
        Twins.same(expect, "with 40 entries", Scene.FORTY.then(v -> v.crash(0, true)), Scene.FORTY);
        Twins.same(expect, "when FULL", Scene.FULL_FORTY.then(v -> v.crash(12, true)), Scene.FULL_FORTY);
    }
}
