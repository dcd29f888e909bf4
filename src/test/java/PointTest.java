/** Promise 8 and what Terms 2 and 3 say of a POINT: which PLACES are written, in which order, and the LOG. */
public final class PointTest {
    private PointTest() {
    }

    public static void main(String[] args) {
        Expect expect = new Expect();
        emptyPoints(expect);
        order(expect);
        freshPlaces(expect);
        pieces(expect);
        cutPieces(expect);
        noPieces(expect);
        goneFiles(expect);
        logOfForty(expect);
        expect.state("point when BROKEN", Layout.broken()::point);
        expect.end();
    }

    private static void emptyPoints(Expect expect) {
        RaidVault vault = new RaidVault();
        expect.answers("the first POINT", 1, vault::point);
        expect.answers("the second POINT", 2, vault::point);
        Layout.counts(expect, "behind two POINTS of nothing", vault, 2, 599, 0, 2, -1, 150, 0, 0);
        Layout.numbers(expect, vault, 0, 0, 2);
        Layout.parity(expect, "behind two POINTS of nothing", vault);
    }

    private static void order(Expect expect) {
        RaidVault vault = new RaidVault();
        vault.write(17, 0, 17L);
        vault.write(2, 0, 2L);
        Layout.grow(vault, 1, 0, 5);
        vault.point();
        Layout.words(expect, vault, 1, Layout.value(1, 0), Layout.value(1, 1), Layout.value(1, 2), Layout.value(1, 3));
        Layout.words(expect, vault, 2, Layout.value(1, 4));
        Layout.numbers(expect, vault, 3, 40, 1, 2);
        Layout.words(expect, vault, 4, 2L);
        Layout.numbers(expect, vault, 5, 8, 4);
        Layout.words(expect, vault, 6, 17L);
        Layout.numbers(expect, vault, 7, 8, 6);
        Layout.numbers(expect, vault, 8, 0, 3, 5);
        Layout.numbers(expect, vault, 9, 0, 7);
        Layout.numbers(expect, vault, 0, 0, 1, 8, 9);
        Layout.counts(expect, "behind a POINT", vault, 1, 590, 0, 10, -1, 150, 0, 3);
        Layout.parity(expect, "behind a POINT", vault);
    }

    private static void freshPlaces(Expect expect) {
        RaidVault vault = new RaidVault();
        vault.write(0, 0, 1L);
        vault.write(16, 0, 2L);
        vault.point();
        Layout.numbers(expect, vault, 0, 0, 1, 5, 6);
        vault.write(0, 0, 3L);
        vault.point();
        Layout.words(expect, vault, 7, 3L);
        Layout.numbers(expect, vault, 8, 8, 7);
        Layout.numbers(expect, vault, 9, 8);
        Layout.numbers(expect, vault, 0, 0, 2, 9, 6);
        Layout.words(expect, vault, 1, 1L);
        expect.same("FREE PLACES", vault.count(1), 593);
        vault.write(16, 8, 4L);
        vault.point();
        Layout.words(expect, vault, 1, 2L, 4L);
        Layout.numbers(expect, vault, 2, 16, 1);
        Layout.numbers(expect, vault, 5, 2);
        Layout.numbers(expect, vault, 0, 0, 3, 9, 5);
        expect.same("WRITINGS", vault.count(3), 7 + 4 + 4);
        Layout.parity(expect, "behind three POINTS", vault);
    }

    private static void pieces(Expect expect) {
        RaidVault vault = new RaidVault();
        Layout.grow(vault, 0, 0, 12);
        vault.point();
        Layout.numbers(expect, vault, 4, 96, 1, 2, 3);
        vault.write(0, 56, -1L);
        vault.point();
        Layout.words(expect, vault, 6, Layout.value(0, 4), Layout.value(0, 5), Layout.value(0, 6), -1L);
        Layout.numbers(expect, vault, 7, 96, 1, 6, 3);
        vault.write(0, 25, 0L);
        vault.point();
        Layout.numbers(expect, vault, 5, 96, 2, 4, 3);
        Layout.words(expect, vault, 2, Layout.value(0, 0), Layout.value(0, 1), Layout.value(0, 2), Layout.value(0, 3) & 0xFF00000000000000L);
        Layout.words(expect, vault, 4, Layout.value(0, 4) & 0x00FFFFFFFFFFFFFFL, Layout.value(0, 5), Layout.value(0, 6), -1L);
        vault.write(0, 24, 0L);
        vault.point();
        expect.same("WRITINGS of a POINT with one PIECE", vault.count(3), 6 + 4 + 5 + 4);
    }

    private static void cutPieces(Expect expect) {
        RaidVault vault = new RaidVault();
        Layout.grow(vault, 0, 0, 12);
        vault.point();
        vault.cut(0, 40);
        vault.point();
        Layout.numbers(expect, vault, 6, 40, 1, 2);
        expect.same("WRITINGS of a cut: INODE, half and INFO", vault.count(3), 6 + 3);
        Layout.words(expect, vault, 2, Layout.value(0, 4), Layout.value(0, 5), Layout.value(0, 6), Layout.value(0, 7));
        vault.write(0, 32, 0x1111111111111111L);
        vault.cut(0, 35);
        vault.point();
        Layout.words(expect, vault, 3, 0x1111110000000000L);
        Layout.numbers(expect, vault, 4, 35, 1, 3);
        vault.write(0, 35, 0x2222222222222222L);
        vault.cut(0, 32);
        vault.point();
        Layout.numbers(expect, vault, 2, 32, 1);
        expect.same("WRITINGS where the written PIECE is cut off", vault.count(3), 6 + 3 + 4 + 3);
        vault.cut(0, 30);
        vault.point();
        vault.crash(0, false);
        expect.answers("a write behind what was cut", 38, () -> vault.write(0, 30, 0x3333333333333333L));
        vault.cut(0, 31);
        vault.point();
        Layout.words(expect, vault, 2, Layout.value(0, 0), Layout.value(0, 1), Layout.value(0, 2), (Layout.value(0, 3) & ~0xFFFFL) | 0x3300L);
    }

    private static void noPieces(Expect expect) {
        RaidVault vault = new RaidVault();
        vault.write(3, 0, 1L);
        vault.cut(3, 0);
        vault.point();
        Layout.numbers(expect, vault, 1);
        Layout.numbers(expect, vault, 2, 0, 0, 0, 1);
        Layout.counts(expect, "with a FILE of 0 octets", vault, 1, 597, 0, 3, -1, 150, 0, 1);
        vault.crash(0, false);
        expect.answers("size of 0 that was read back", 0, () -> vault.size(-1, 3));
        vault.cut(3, 0);
        vault.point();
        expect.same("a cut to as many octets is a change", vault.count(3), 6);
    }

    private static void goneFiles(Expect expect) {
        RaidVault vault = new RaidVault();
        vault.write(20, 0, 1L);
        vault.remove(20);
        vault.point();
        Layout.numbers(expect, vault, 0, 0, 1, 0, 1);
        Layout.numbers(expect, vault, 1);
        expect.same("FREE PLACES with an empty half", vault.count(1), 598);
        Layout.grow(vault, 20, 0, 5);
        vault.point();
        vault.remove(20);
        vault.write(20, 0, 6L);
        vault.point();
        expect.same("WRITINGS of what was removed and made anew", vault.count(3), 2 + 5 + 4);
        vault.remove(20);
        vault.point();
        Layout.counts(expect, "behind the last remove", vault, 4, 598, 0, 13, -1, 150, 0, 0);
    }

    private static void logOfForty(Expect expect) {
        RaidVault vault = new RaidVault();
        Layout.grow(vault, 0, 0, 40);
        Layout.counts(expect, "with 40 entries", vault, 0, 599, 40, 0, -1, 150, 0, 1);
        expect.argument("a wrong write", () -> vault.write(0, 321, 0L));
        expect.argument("a wrong cut", () -> vault.cut(0, 321));
        expect.argument("a wrong remove", () -> vault.remove(1));
        Layout.counts(expect, "behind wrong calls", vault, 0, 599, 40, 0, -1, 150, 0, 1);
        expect.answers("the 41st", 328, () -> vault.write(0, 320, 0L));
        Layout.counts(expect, "with a 41st", vault, 1, 587, 1, 13, -1, 150, 0, 1);
        expect.same("octets that the POINT has", Layout.number(vault, 11, 0), 320);
        for (int i = 0; i < 39; i++) {
            vault.cut(0, 300 - i);
        }
        expect.goes("a cut with 40 entries", () -> vault.cut(0, 5));
        expect.same("the POINT before a cut", vault.count(0), 2);
        for (int i = 0; i < 39; i++) {
            vault.cut(0, 5);
        }
        expect.goes("a remove with 40 entries", () -> vault.remove(0));
        Layout.counts(expect, "behind the remove", vault, 3, 596, 1, 13 + 3 + 3, -1, 150, 0, 0);
        expect.answers("a POINT behind it", 4, vault::point);
        expect.same("entries behind a POINT", vault.count(2), 0);
    }
}
