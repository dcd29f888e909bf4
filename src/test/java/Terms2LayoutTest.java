/** Terms 2: how INFO, halves of the MAP, INODES and PIECES stand, and which PLACES are FREE. */
public final class Terms2LayoutTest {
    private Terms2LayoutTest() {
    }

    public static void main(String[] args) {
        Tests.run(Terms2LayoutTest.class);
    }

    /** A FILE of so many octets, behind a POINT. */
    private static RaidVault withFile(int file, int octets) {
        RaidVault vault = new RaidVault();
        Layout.grow(vault, file, 0, Math.max(1, (octets + 7) / 8));
        vault.cut(file, octets);
        vault.point();
        return vault;
    }

    static void term2Promise08PiecesOf32Octets(Expect expect) {
        int[] sizes = {0, 1, 31, 32, 33, 63, 64, 65, 255, 256, 257, 415, 416, 417, 447, 448};
        int[] pieces = {0, 1, 1, 1, 2, 2, 2, 3, 8, 8, 9, 13, 13, 14, 14, 14};
        for (int i = 0; i < sizes.length; i++) {
            RaidVault vault = withFile(5, sizes[i]);
            int inode = Layout.inode(vault, 5);
            expect.same("octets in the INODE", Layout.number(vault, inode, 0), sizes[i]);
            for (int piece = 0; piece < 15; piece++) {
                int there = Layout.number(vault, inode, 1 + piece) != 0 ? 1 : 0;
                expect.same("PIECE " + piece + " of " + sizes[i], there, piece < pieces[i] ? 1 : 0);
            }
            expect.same("PLACES in use", 599 - vault.count(1), pieces[i] + 2);
        }
    }

    static void term2Promise11FilesOf0To448OctetsAreReadBack(Expect expect) {
        for (int size : new int[] {0, 1, 8, 31, 32, 33, 64, 255, 256, 320}) {
            RaidVault vault = withFile(31, size);
            vault.crash(0, false);
            expect.same("size", vault.size(-1, 31), size);
            for (int at = 0; at < size; at++) {
                expect.same("octet " + at, vault.octet(-1, 31, at), Layout.octet(31, at));
            }
            int end = size;
            expect.outside("octet " + end, () -> vault.octet(-1, 31, end));
        }
        RaidVault longest = withFile(31, 448);
        longest.crash(0, false);
        expect.same("size", longest.size(-1, 31), 448);
        for (int at = 128; at < 448; at++) {
            expect.same("octet " + at, longest.octet(-1, 31, at), Layout.octet(31, at));
        }
        expect.outside("octet 448", () -> longest.octet(-1, 31, 448));
    }

    static void term2Promise15NumbersHaveTwoOctetsTheHigherFirst(Expect expect) {
        int[] sizes = {255, 256, 448};
        long[] octets = {0x00FFL, 0x0100L, 0x01C0L};
        for (int i = 0; i < sizes.length; i++) {
            RaidVault vault = withFile(0, sizes[i]);
            int inode = Layout.inode(vault, 0);
            expect.same("the first two octets of the INODE", Layout.word(vault, inode, 0) >>> 48, octets[i]);
        }
        RaidVault full = Scene.JUST_ENOUGH.then(RaidVault::point).made();
        expect.same("PLACE 599 in INFO", full.block(0, 0, 0) & 0xFFFFL, 0x0257L);
    }

    static void term2Promise15InfoIsAll0AtFirst(Expect expect) {
        Layout.words(expect, new RaidVault(), 0);
    }

    static void term2Promise08TheNumberOfThePointHasFourOctets(Expect expect) {
        RaidVault vault = new RaidVault();
        for (int i = 0; i < 257; i++) {
            vault.point();
        }
        Layout.words(expect, vault, 0, 0x0000010100000000L);
        vault.crash(0, true);
        expect.same("read back", vault.count(0), 257);
    }

    static void term2Promise09WhereEachSnapshotStandsInInfo(Expect expect) {
        for (int k = 0; k < 5; k++) {
            RaidVault vault = new RaidVault();
            vault.write(0, 0, 1L);
            vault.write(16, 0, 1L);
            vault.snapshot(k);
            int[] due = new int[16];
            due[1] = 1;
            due[2] = 5;
            due[3] = 6;
            due[4 + 2 * k] = 5;
            due[5 + 2 * k] = 6;
            Layout.numbers(expect, vault, 0, due);
        }
    }

    static void term2Promise10WithBoth0ThereIsNoSnapshot(Expect expect) {
        RaidVault vault = new RaidVault();
        vault.write(0, 0, 1L);
        vault.snapshot(4);
        vault.drop(4);
        Layout.numbers(expect, vault, 0, 0, 1, 3);
        expect.argument("size in it", () -> vault.size(4, 0));
        RaidVault empty = new RaidVault();
        empty.snapshot(4);
        Layout.numbers(expect, empty, 0, 0, 1);
        expect.argument("size in that of nothing", () -> empty.size(4, 0));
    }

    static void term2Promise06InAHalfThatIsNoneFilesAreNone(Expect expect) {
        RaidVault vault = new RaidVault();
        vault.write(15, 0, 1L);
        vault.snapshot(0);
        Layout.numbers(expect, vault, 0, 0, 1, 3, 0, 3);
        expect.answers("the last FILE of the first half", 8, () -> vault.size(0, 15));
        expect.answers("the first FILE of the second half", -1, () -> vault.size(0, 16));
        vault.crash(0, false);
        expect.answers("that FILE now", -1, () -> vault.size(-1, 16));
        expect.answers("the last FILE now", -1, () -> vault.size(-1, 31));
    }

    static void term2Promise08AHalfHas16Files(Expect expect) {
        RaidVault vault = new RaidVault();
        for (int file : new int[] {0, 15, 16, 31}) {
            vault.write(file, 0, file);
        }
        vault.point();
        Layout.numbers(expect, vault, 9, 2, 0, 0, 0, 0, 0, 0, 0, 0, 0, 0, 0, 0, 0, 0, 4);
        Layout.numbers(expect, vault, 10, 6, 0, 0, 0, 0, 0, 0, 0, 0, 0, 0, 0, 0, 0, 0, 8);
        Layout.numbers(expect, vault, 0, 0, 1, 9, 10);
        vault.remove(15);
        vault.remove(16);
        vault.point();
        Layout.numbers(expect, vault, 11, 2);
        Layout.numbers(expect, vault, 12, 0, 0, 0, 0, 0, 0, 0, 0, 0, 0, 0, 0, 0, 0, 0, 8);
        Layout.numbers(expect, vault, 0, 0, 2, 11, 12);
    }

    static void term2Promise04TheInodeHas0BehindItsPieces(Expect expect) {
        RaidVault vault = new RaidVault();
        Layout.grow(vault, 0, 0, 12);
        vault.point();
        Layout.numbers(expect, vault, 4, 96, 1, 2, 3);
        vault.cut(0, 33);
        vault.point();
        Layout.numbers(expect, vault, 6, 33, 1, 2);
        vault.cut(0, 32);
        vault.point();
        Layout.numbers(expect, vault, 3, 32, 1);
        vault.cut(0, 0);
        vault.point();
        Layout.numbers(expect, vault, Layout.inode(vault, 0));
        expect.same("an INODE of 0 octets has a PLACE", Layout.inode(vault, 0) != 0 ? 1 : 0, 1);
    }

    static void term2Promise03APieceIs0BehindTheEnd(Expect expect) {
        RaidVault vault = new RaidVault();
        vault.write(0, 0, -1L);
        vault.point();
        Layout.words(expect, vault, 1, -1L);
        vault.write(0, 5, -1L);
        vault.point();
        Layout.words(expect, vault, Layout.number(vault, Layout.inode(vault, 0), 1), -1L, 0xFFFFFFFFFF000000L);
    }

    static void term2Promise04APieceThatIsWrittenIs0BehindWhatWasCut(Expect expect) {
        for (int octets = 0; octets <= 32; octets++) {
            RaidVault vault = new RaidVault();
            for (int i = 0; i < 4; i++) {
                vault.write(0, 8 * i, -1L);
            }
            vault.cut(0, octets);
            vault.point();
            for (int word = 0; word < 4 && octets > 0; word++) {
                int inWord = Math.max(0, Math.min(8, octets - 8 * word));
                long due = inWord == 0 ? 0L : -1L << (64 - 8 * inWord);
                expect.same("word " + word + " of " + octets + " octets", Layout.word(vault, 1, word), due);
            }
        }
    }

    /** The end counts that the FILE has as the PIECE is written, so a cut alone leaves what stands there. */
    static void term2Promise04APieceThatIsNotWrittenKeepsWhatStandsBehindTheEnd(Expect expect) {
        RaidVault vault = new RaidVault();
        Layout.grow(vault, 0, 0, 4);
        vault.point();
        vault.cut(0, 5);
        vault.point();
        Layout.numbers(expect, vault, 4, 5, 1);
        Layout.words(expect, vault, 1, Layout.value(0, 0), Layout.value(0, 1), Layout.value(0, 2), Layout.value(0, 3));
        expect.outside("octet 5", () -> vault.octet(-1, 0, 5));
        vault.crash(0, false);
        expect.outside("octet 5 read back", () -> vault.octet(-1, 0, 5));
        vault.write(0, 5, -1L);
        vault.cut(0, 6);
        vault.point();
        Layout.words(expect, vault, Layout.number(vault, Layout.inode(vault, 0), 1),
                (Layout.value(0, 0) & 0xFFFFFFFFFF000000L) | 0xFF0000L);
    }

    static void term2Promise16Place0IsNotFree(Expect expect) {
        expect.same("FREE PLACES of nothing", new RaidVault().count(1), 599);
        RaidVault vault = new RaidVault();
        vault.write(0, 0, 5L);
        vault.point();
        Layout.words(expect, vault, 1, 5L);
        Layout.numbers(expect, vault, 0, 0, 1, 3);
    }

    static void term2Promise16WhatAMapLeadsToIsNotFree(Expect expect) {
        RaidVault vault = new RaidVault();
        Layout.grow(vault, 0, 0, 12);
        vault.write(16, 0, 1L);
        vault.point();
        expect.same("three PIECES and one, two INODES, two halves", vault.count(1), 599 - 8);
        vault.cut(0, 64);
        vault.point();
        expect.same("a PIECE that was cut off is FREE", vault.count(1), 599 - 7);
        vault.snapshot(0);
        expect.same("what two MAPS lead to counts once", vault.count(1), 599 - 7);
        vault.remove(0);
        vault.point();
        expect.same("a SNAPSHOT keeps it; a half is new", vault.count(1), 599 - 8);
        vault.drop(0);
        expect.same("without the SNAPSHOT it is FREE", vault.count(1), 599 - 4);
        vault.remove(16);
        vault.point();
        expect.same("two halves without FILES", vault.count(1), 599 - 2);
    }

    static void term2Promise16WhatAPieceOrAnInodeIsNoLongerLedToIsFree(Expect expect) {
        RaidVault vault = new RaidVault();
        Layout.grow(vault, 0, 0, 4);
        vault.point();
        for (int i = 0; i < 20; i++) {
            vault.write(0, 0, i);
            vault.point();
            expect.same("FREE PLACES", vault.count(1), 596);
        }
    }
}
