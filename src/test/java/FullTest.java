/** What is FULL: nothing is written and nothing changes, in all calls that make a POINT. */
public final class FullTest {
    private FullTest() {
    }

    public static void main(String[] args) {
        Expect expect = new Expect();
        exactlyEnough(expect);
        oneTooFew(expect);
        fortyEntries(expect);
        crashes(expect);
        expect.end();
    }

    /** 11 PLACES: two PIECES and an INODE of each of three FILES, and both halves. */
    private static void takeEleven(RaidVault vault) {
        vault.write(0, 28, -1L);
        vault.write(1, 28, -1L);
        vault.write(16, 28, -1L);
    }

    private static void exactlyEnough(Expect expect) {
        RaidVault vault = Layout.nearlyFull();
        expect.same("FREE PLACES", vault.count(1), 11);
        int before = vault.count(3);
        takeEleven(vault);
        expect.goes("a POINT that takes the last PLACE", vault::point);
        expect.same("WRITINGS", vault.count(3) - before, 12);
        expect.same("FREE PLACES behind it", vault.count(1), 11);
        for (int k = 0; k < 5; k++) {
            expect.same("an octet of SNAPSHOT " + k, vault.octet(k, 16, 35), k);
        }
        expect.same("an octet now", vault.octet(-1, 16, 35), 255);
        Layout.parity(expect, "behind a POINT that took the last PLACE", vault);
    }

    private static void oneTooFew(Expect expect) {
        RaidVault vault = Layout.nearlyFull();
        int number = vault.count(0);
        int writings = vault.count(3);
        takeEleven(vault);
        vault.cut(2, 3);
        expect.full("point", vault::point);
        expect.full("snapshot", () -> vault.snapshot(0));
        expect.argument("snapshot with a wrong argument", () -> vault.snapshot(5));
        Layout.counts(expect, "behind what was FULL", vault, number, 11, 4, writings, -1, 150, 0, 32);
        expect.same("an octet of memory", vault.octet(-1, 16, 35), 255);
        expect.same("an octet of the SNAPSHOT", vault.octet(0, 16, 35), 0);
        expect.answers("a write that needs no POINT", 40, () -> vault.write(3, 0, 0L));
        expect.goes("drop makes room", () -> vault.drop(2));
        expect.same("FREE PLACES behind drop", vault.count(1), 11 + 98);
        expect.answers("a POINT behind it", number + 1, vault::point);
    }

    private static void fortyEntries(Expect expect) {
        RaidVault vault = Layout.nearlyFull();
        for (int i = 0; i < 40; i++) {
            vault.cut(i % 32, 33);
        }
        int number = vault.count(0);
        int writings = vault.count(3);
        expect.full("write", () -> vault.write(0, 0, 1L));
        expect.full("cut", () -> vault.cut(0, 0));
        expect.full("remove", () -> vault.remove(0));
        expect.argument("a wrong write", () -> vault.write(0, 34, 1L));
        Layout.counts(expect, "behind what was FULL", vault, number, 11, 40, writings, -1, 150, 0, 32);
        expect.same("a FILE that was not changed", vault.size(-1, 0), 33);
        vault.fail(0);
        vault.fail(1);
        expect.state("a write that would be FULL when BROKEN", () -> vault.write(0, 0, 1L));
    }

    private static void crashes(Expect expect) {
        RaidVault vault = Layout.nearlyFull();
        int number = vault.count(0);
        int writings = vault.count(3);
        takeEleven(vault);
        vault.remove(31);
        vault.cut(2, 3);
        expect.answers("a CRASH whose POINT would be FULL", 0, () -> vault.crash(1000, true) ? 1 : 0);
        Layout.counts(expect, "behind it", vault, number, 11, 5, writings, -1, 150, 0, 31);
        expect.same("what the LOG has", vault.size(-1, 2), 3);
        expect.full("a POINT is FULL still", vault::point);
        expect.answers("a CRASH that takes the LOG", 0, () -> vault.crash(1000, false) ? 1 : 0);
        Layout.counts(expect, "behind that", vault, number, 11, 0, writings, -1, 150, 0, 32);
        expect.same("what the POINT has", vault.size(-1, 2), 40);
    }
}
