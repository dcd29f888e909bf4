/** Promises 9 and 10: snapshot and drop. */
public final class SnapshotTest {
    private SnapshotTest() {
    }

    public static void main(String[] args) {
        Expect expect = new Expect();
        arguments(expect);
        keeps(expect);
        anew(expect);
        ofNothing(expect);
        drops(expect);
        whenBroken(expect);
        expect.end();
    }

    private static void arguments(Expect expect) {
        RaidVault vault = new RaidVault();
        vault.write(0, 0, 1L);
        expect.argument("snapshot -1", () -> vault.snapshot(-1));
        expect.argument("snapshot 5", () -> vault.snapshot(5));
        expect.argument("the least snapshot", () -> vault.snapshot(Integer.MIN_VALUE));
        expect.argument("the greatest snapshot", () -> vault.snapshot(Integer.MAX_VALUE));
        expect.argument("drop -1", () -> vault.drop(-1));
        expect.argument("drop 5", () -> vault.drop(5));
        expect.argument("drop of what there is not", () -> vault.drop(0));
        expect.argument("the least drop", () -> vault.drop(Integer.MIN_VALUE));
        expect.argument("the greatest drop", () -> vault.drop(Integer.MAX_VALUE));
        Layout.counts(expect, "behind wrong calls", vault, 0, 599, 1, 0, -1, 150, 0, 1);
    }

    private static void keeps(Expect expect) {
        RaidVault vault = new RaidVault();
        vault.write(0, 0, 1L);
        vault.write(31, 0, 2L);
        expect.goes("snapshot 0", () -> vault.snapshot(0));
        Layout.numbers(expect, vault, 0, 0, 1, 5, 6, 5, 6);
        Layout.counts(expect, "behind a SNAPSHOT", vault, 1, 593, 0, 8, -1, 150, 0, 2);
        vault.remove(0);
        vault.write(31, 0, 3L);
        expect.goes("snapshot 4", () -> vault.snapshot(4));
        Layout.numbers(expect, vault, 0, 0, 2, 9, 10, 5, 6, 0, 0, 0, 0, 0, 0, 9, 10);
        Layout.counts(expect, "behind another one", vault, 2, 589, 0, 8 + 6, -1, 150, 0, 1);
        expect.answers("size in SNAPSHOT 0", 8, () -> vault.size(0, 0));
        expect.answers("size in SNAPSHOT 4", -1, () -> vault.size(4, 0));
        expect.answers("octet in SNAPSHOT 0", 2, () -> vault.octet(0, 31, 7));
        expect.answers("octet in SNAPSHOT 4", 3, () -> vault.octet(4, 31, 7));
        expect.argument("SNAPSHOT 1", () -> vault.size(1, 0));
        vault.write(31, 0, 4L);
        expect.answers("a change is not in the SNAPSHOT", 3, () -> vault.octet(4, 31, 7));
        vault.crash(0, false);
        expect.answers("SNAPSHOTS stay in a CRASH", 2, () -> vault.octet(0, 31, 7));
        Layout.parity(expect, "behind SNAPSHOTS", vault);
    }

    private static void anew(Expect expect) {
        RaidVault vault = new RaidVault();
        vault.write(0, 0, 1L);
        vault.snapshot(2);
        vault.write(0, 0, 2L);
        expect.goes("the same SNAPSHOT anew", () -> vault.snapshot(2));
        expect.answers("octet in it", 2, () -> vault.octet(2, 0, 7));
        Layout.numbers(expect, vault, 0, 0, 2, 6, 0, 0, 0, 0, 0, 6);
        expect.same("what it had is FREE", vault.count(1), 596);
        vault.write(0, 0, 3L);
        vault.point();
        Layout.words(expect, vault, 1, 3L);
        expect.same("FREE PLACES with two versions", vault.count(1), 593);
    }

    private static void ofNothing(Expect expect) {
        RaidVault vault = new RaidVault();
        expect.goes("a SNAPSHOT of an empty MAP", () -> vault.snapshot(0));
        Layout.counts(expect, "behind it", vault, 1, 599, 0, 2, -1, 150, 0, 0);
        Layout.numbers(expect, vault, 0, 0, 1);
        expect.argument("with both 0 there is none", () -> vault.size(0, 0));
        expect.argument("nor can it be dropped", () -> vault.drop(0));
        vault.write(20, 0, 1L);
        expect.goes("a SNAPSHOT of one half", () -> vault.snapshot(0));
        expect.answers("a FILE in the half that is none", -1, () -> vault.size(0, 0));
        expect.answers("a FILE in the other one", 8, () -> vault.size(0, 20));
        vault.remove(20);
        expect.goes("a SNAPSHOT of an empty half", () -> vault.snapshot(1));
        expect.answers("it is there", -1, () -> vault.size(1, 20));
    }

    private static void drops(Expect expect) {
        RaidVault vault = new RaidVault();
        vault.write(0, 0, 1L);
        vault.snapshot(1);
        vault.write(0, 0, 2L);
        vault.snapshot(3);
        vault.write(0, 0, 3L);
        int writings = vault.count(3);
        expect.same("FREE PLACES before drop", vault.count(1), 593);
        expect.goes("drop", () -> vault.drop(1));
        Layout.counts(expect, "behind drop", vault, 2, 596, 1, writings + 1, -1, 150, 0, 1);
        Layout.numbers(expect, vault, 0, 0, 2, 6, 0, 0, 0, 0, 0, 0, 0, 6);
        expect.argument("size in what was dropped", () -> vault.size(1, 0));
        expect.argument("drop again", () -> vault.drop(1));
        expect.answers("the other SNAPSHOT", 2, () -> vault.octet(3, 0, 7));
        expect.answers("memory", 3, () -> vault.octet(-1, 0, 7));
        expect.goes("drop of what the MAP has, too", () -> vault.drop(3));
        expect.same("FREE PLACES behind it", vault.count(1), 596);
        vault.crash(0, false);
        expect.argument("a dropped SNAPSHOT stays away", () -> vault.size(3, 0));
        Layout.parity(expect, "behind drop", vault);
    }

    private static void whenBroken(Expect expect) {
        RaidVault vault = Layout.broken();
        expect.state("snapshot", () -> vault.snapshot(0));
        expect.argument("snapshot 5", () -> vault.snapshot(5));
        expect.state("drop", () -> vault.drop(3));
        expect.argument("drop of none", () -> vault.drop(0));
    }
}
