/** Promise 16: count. */
public final class CountTest {
    private CountTest() {
    }

    public static void main(String[] args) {
        Expect expect = new Expect();
        RaidVault vault = new RaidVault();
        int[] others = {-1, 8, 9, Integer.MIN_VALUE, Integer.MAX_VALUE};
        for (int what : others) {
            expect.argument("count(" + what + ")", () -> vault.count(what));
        }
        vault.write(0, 0, 1L);
        vault.write(16, 0, 1L);
        Layout.counts(expect, "behind two writes", vault, 0, 599, 2, 0, -1, 150, 0, 2);
        vault.point();
        Layout.counts(expect, "behind a POINT", vault, 1, 593, 0, 7, -1, 150, 0, 2);
        vault.snapshot(0);
        Layout.counts(expect, "behind a SNAPSHOT", vault, 2, 593, 0, 9, -1, 150, 0, 2);
        vault.remove(16);
        vault.fail(4);
        Layout.counts(expect, "with FAILED DISK 4", vault, 2, 593, 1, 9, 4, 0, 0, 1);
        vault.point();
        Layout.counts(expect, "with what the SNAPSHOT keeps", vault, 3, 592, 0, 11, 4, 0, 0, 1);
        vault.replace();
        vault.rebuild(11);
        Layout.counts(expect, "while REBUILT", vault, 3, 592, 0, 11, 4, 11, 0, 1);
        vault.drop(0);
        Layout.counts(expect, "without the SNAPSHOT", vault, 3, 595, 0, 12, 4, 11, 0, 1);
        vault.write(3, 0, 0L);
        vault.fail(0);
        Layout.counts(expect, "when BROKEN", vault, 3, 595, 1, 12, 4, 11, 1, 2);
        expect.argument("count(8) when BROKEN", () -> vault.count(8));
        expect.end();
    }
}
