/** Promises 1 and 2: a new object, and begin. */
public final class BeginTest {
    private BeginTest() {
    }

    public static void main(String[] args) {
        Expect expect = new Expect();
        isNew(expect, "of a new object", new RaidVault());
        afterUse(expect);
        afterBroken(expect);
        apart(expect);
        expect.end();
    }

    private static void isNew(Expect expect, String when, RaidVault vault) {
        Layout.counts(expect, when, vault, 0, 599, 0, 0, -1, 150, 0, 0);
        for (int file = 0; file < 32; file++) {
            expect.same("size " + when, vault.size(-1, file), -1);
        }
        for (int k = 0; k < 5; k++) {
            int snapshot = k;
            expect.argument("size in SNAPSHOT " + k + " " + when, () -> vault.size(snapshot, 0));
        }
        long all = 0;
        for (int disk = 0; disk < 5; disk++) {
            for (int block = 0; block < 150; block++) {
                for (int word = 0; word < 4; word++) {
                    all |= vault.block(disk, block, word);
                }
            }
        }
        expect.same("octets of all BLOCKS " + when, all, 0);
    }

    private static void afterUse(Expect expect) {
        RaidVault vault = new RaidVault();
        Layout.grow(vault, 4, 0, 30);
        Layout.grow(vault, 31, 0, 20);
        vault.write(6, 0, 6L);
        vault.snapshot(0);
        vault.cut(4, 9);
        vault.snapshot(4);
        vault.remove(31);
        vault.fail(3);
        vault.replace();
        vault.rebuild(2);
        vault.begin();
        isNew(expect, "behind begin()", vault);
        expect.answers("write behind begin()", 8, () -> vault.write(4, 0, 1L));
        expect.answers("point behind begin()", 1, vault::point);
        Layout.words(expect, vault, 1, 1L);
        Layout.numbers(expect, vault, 2, 8, 1);
        Layout.numbers(expect, vault, 3, 0, 0, 0, 0, 2);
        Layout.numbers(expect, vault, 0, 0, 1, 3);
    }

    private static void afterBroken(Expect expect) {
        RaidVault vault = Layout.broken();
        vault.begin();
        isNew(expect, "behind begin() of what was BROKEN", vault);
        expect.goes("fail behind begin()", () -> vault.fail(1));
        vault.begin();
        expect.state("replace behind begin() of what FAILED", vault::replace);
        expect.state("rebuild behind begin() of what FAILED", () -> vault.rebuild(1));
    }

    private static void apart(Expect expect) {
        RaidVault one = new RaidVault();
        RaidVault other = new RaidVault();
        one.write(0, 0, 1L);
        one.point();
        isNew(expect, "of an object beside another one", other);
    }
}
