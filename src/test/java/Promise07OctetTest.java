/** Promise 7: octet. */
public final class Promise07OctetTest {
    private Promise07OctetTest() {
    }

    public static void main(String[] args) {
        Tests.run(Promise07OctetTest.class);
    }

    private static void refused(Expect expect, Class<?> due, Scene scene, int k, int file, int at) {
        Twins.refused(expect, due, "octet(" + k + ", " + file + ", " + at + ")", scene, v -> v.octet(k, file, at));
    }

    static void promise07OctetsAre0To255(Expect expect) {
        RaidVault vault = new RaidVault();
        vault.write(2, 0, 0x00FF7F8001FE0000L);
        Layout.octets(expect, vault, 2, 0, 255, 127, 128, 1, 254, 0, 0);
        vault.snapshot(0);
        vault.remove(2);
        int[] due = {0, 255, 127, 128, 1, 254, 0, 0};
        for (int i = 0; i < 8; i++) {
            int at = i;
            expect.answers("octet " + at + " in the SNAPSHOT", due[at], () -> vault.octet(0, 2, at));
        }
    }

    static void promise07FirstAndLastOctet(Expect expect) {
        RaidVault vault = Scene.SOME.made();
        expect.answers("the first one now", Layout.octet(0, 0), () -> vault.octet(-1, 0, 0));
        expect.answers("the last one now", Layout.octet(0, 47), () -> vault.octet(-1, 0, 47));
        expect.answers("the first one in SNAPSHOT 1", Layout.octet(0, 0), () -> vault.octet(1, 0, 0));
        expect.answers("the last one in SNAPSHOT 1", Layout.octet(0, 39), () -> vault.octet(1, 0, 39));
        expect.answers("the last one that a cut left", Layout.octet(31, 2), () -> vault.octet(-1, 31, 2));
    }

    static void promise07ThereIsNone(Expect expect) {
        refused(expect, Expect.OUTSIDE, Scene.SOME, -1, 0, 48);
        refused(expect, Expect.OUTSIDE, Scene.SOME, 1, 0, 40);
        refused(expect, Expect.OUTSIDE, Scene.SOME, -1, 31, 3);
        refused(expect, Expect.OUTSIDE, Scene.SOME, 1, 31, 8);
        for (int k = -1; k <= 1; k += 2) {
            refused(expect, Expect.OUTSIDE, Scene.SOME, k, 0, -1);
            refused(expect, Expect.OUTSIDE, Scene.SOME, k, 0, 448);
            refused(expect, Expect.OUTSIDE, Scene.SOME, k, 0, Integer.MIN_VALUE);
            refused(expect, Expect.OUTSIDE, Scene.SOME, k, 0, Integer.MAX_VALUE);
        }
    }

    static void promise07OfNoneAndOf0Octets(Expect expect) {
        for (int k = -1; k <= 1; k += 2) {
            refused(expect, Expect.OUTSIDE, Scene.SOME, k, 5, 0);
            refused(expect, Expect.OUTSIDE, Scene.SOME, k, 5, -1);
        }
        Scene empty = Scene.SOME.then(v -> v.cut(0, 0));
        refused(expect, Expect.OUTSIDE, empty, -1, 0, 0);
        refused(expect, Expect.OUTSIDE, empty.then(v -> v.snapshot(2)), 2, 0, 0);
    }

    static void promise07OfTheLongest(Expect expect) {
        RaidVault vault = new RaidVault();
        Layout.grow(vault, 16, 0, 56);
        vault.snapshot(4);
        for (int i = -1; i <= 4; i += 5) {
            int k = i;
            for (int j = 0; j < 14; j++) {
                int first = 32 * j;
                int last = 32 * j + 31;
                expect.answers("octet " + first, Layout.octet(16, first), () -> vault.octet(k, 16, first));
                expect.answers("octet " + last, Layout.octet(16, last), () -> vault.octet(k, 16, last));
            }
            expect.outside("octet 448", () -> vault.octet(k, 16, 448));
        }
    }

    static void promise07ThereIsNoSuchSnapshotOrFile(Expect expect) {
        for (int k : new int[] {-2, 0, 2, 4, 5, Integer.MIN_VALUE, Integer.MAX_VALUE}) {
            refused(expect, Expect.ARGUMENT, Scene.SOME, k, 0, 0);
        }
        for (int file : new int[] {-1, 32, Integer.MIN_VALUE, Integer.MAX_VALUE}) {
            refused(expect, Expect.ARGUMENT, Scene.SOME, -1, file, 0);
            refused(expect, Expect.ARGUMENT, Scene.SOME, 1, file, 0);
        }
    }

    static void promise07AtIsLookedAtLast(Expect expect) {
        refused(expect, Expect.ARGUMENT, Scene.SOME, -1, 32, -1);
        refused(expect, Expect.ARGUMENT, Scene.SOME, 0, 0, -1);
        for (Scene broken : new Scene[] {Scene.BROKEN, Scene.BROKEN_REBUILT}) {
            refused(expect, Expect.STATE, broken, -1, 0, 0);
            refused(expect, Expect.STATE, broken, 1, 0, 0);
            refused(expect, Expect.STATE, broken, -1, 0, 48);
            refused(expect, Expect.STATE, broken, 1, 0, -1);
            refused(expect, Expect.STATE, broken, -1, 5, 0);
            refused(expect, Expect.ARGUMENT, broken, 0, 0, 0);
            refused(expect, Expect.ARGUMENT, broken, -1, 32, 0);
        }
    }

    static void promise07IsNotRefusedWithOneDiskFailed(Expect expect) {
        for (int i = 0; i < 5; i++) {
            int disk = i;
            RaidVault vault = Scene.SOME.then(v -> v.fail(disk)).made();
            Layout.grown(expect, vault, -1, 0, 6);
            Layout.grown(expect, vault, 1, 0, 5);
            Layout.grown(expect, vault, 1, 31, 1);
            expect.outside("octet 40 in the SNAPSHOT", () -> vault.octet(1, 0, 40));
        }
    }

    static void promise07ChangesNothing(Expect expect) {
        Twins.same(expect, "behind octet", Scene.SOME.then(v -> v.octet(1, 0, 0)), Scene.SOME);
    }
}
