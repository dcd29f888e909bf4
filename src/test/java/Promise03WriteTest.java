/** Promise 3: write. */
public final class Promise03WriteTest {
    private Promise03WriteTest() {
    }

    public static void main(String[] args) {
        Tests.run(Promise03WriteTest.class);
    }

    private static void argument(Expect expect, Scene scene, int file, int at) {
        Twins.refused(expect, Expect.ARGUMENT, "write(" + file + ", " + at + ")", scene, v -> v.write(file, at, -1L));
    }

    /** FILE 7 has so many octets. */
    private static Scene fileOf(int octets) {
        return vault -> {
            Layout.grow(vault, 7, 0, octets / 8);
            if (octets % 8 != 0) {
                vault.write(7, octets - 8, -1L);
            }
        };
    }

    static void promise03TheHighestOctetOfVIsTheFirst(Expect expect) {
        RaidVault vault = new RaidVault();
        vault.write(0, 0, 0x01027F8081FEFF00L);
        Layout.octets(expect, vault, 0, 1, 2, 127, 128, 129, 254, 255, 0);
        vault.write(1, 0, Long.MIN_VALUE);
        Layout.octets(expect, vault, 1, 128, 0, 0, 0, 0, 0, 0, 0);
        vault.write(2, 0, Long.MAX_VALUE);
        Layout.octets(expect, vault, 2, 127, 255, 255, 255, 255, 255, 255, 255);
    }

    static void promise03EightOctetsAloneChange(Expect expect) {
        RaidVault vault = new RaidVault();
        vault.write(0, 0, 0x0102030405060708L);
        vault.write(0, 8, 0x1112131415161718L);
        expect.answers("a write within", 16, () -> vault.write(0, 3, 0xFFFEFDFCFBFAF9F8L));
        Layout.octets(expect, vault, 0, 1, 2, 3, 255, 254, 253, 252, 251, 250, 249, 248, 0x14, 0x15, 0x16, 0x17, 0x18);
        expect.answers("a write of what is longer", 16, () -> vault.write(0, 0, 0L));
        Layout.octets(expect, vault, 0, 0, 0, 0, 0, 0, 0, 0, 0, 250, 249, 248, 0x14, 0x15, 0x16, 0x17, 0x18);
    }

    static void promise03EveryPlaceOfTheFirstOctetInAPiece(Expect expect) {
        for (int at = 0; at <= 64; at++) {
            RaidVault vault = new RaidVault();
            Layout.grow(vault, 0, 0, 9);
            int from = at;
            expect.answers("a write at " + from, 72, () -> vault.write(0, from, 0x8182838485868788L));
            for (int i = 0; i < 72; i++) {
                int due = i >= at && i < at + 8 ? 0x81 + i - at : Layout.octet(0, i);
                expect.same("octet " + i + " behind a write at " + at, vault.octet(-1, 0, i), due);
            }
        }
    }

    static void promise03FilesAre0To31(Expect expect) {
        RaidVault vault = new RaidVault();
        expect.answers("FILE 0", 8, () -> vault.write(0, 0, 1L));
        expect.answers("FILE 31", 8, () -> vault.write(31, 0, 2L));
        expect.same("FILES", vault.count(7), 2);
        for (int file : new int[] {-1, 32, -32, 33, Integer.MIN_VALUE, Integer.MAX_VALUE}) {
            argument(expect, Scene.SOME, file, 0);
        }
    }

    static void promise03AtIsNotBelow0(Expect expect) {
        expect.answers("at 0 of a FILE", 48, () -> Scene.SOME.made().write(0, 0, 1L));
        argument(expect, Scene.SOME, 0, -1);
        argument(expect, Scene.SOME, 0, -8);
        argument(expect, Scene.SOME, 0, Integer.MIN_VALUE);
        argument(expect, Scene.SOME, 5, -1);
    }

    static void promise03OneThatIsNoneHas0Octets(Expect expect) {
        RaidVault vault = new RaidVault();
        expect.answers("at 0 of none", 8, () -> vault.write(5, 0, 1L));
        expect.same("it is there", vault.count(7), 1);
        argument(expect, Scene.SOME, 5, 1);
        argument(expect, Scene.SOME, 5, 8);
        Scene removed = Scene.SOME.then(v -> v.remove(0));
        argument(expect, removed, 0, 1);
        argument(expect, removed, 0, 8);
        expect.answers("at 0 of what was removed", 8, () -> removed.made().write(0, 0, 1L));
    }

    static void promise03OneOf0OctetsIsWrittenAt0(Expect expect) {
        Scene empty = Scene.SOME.then(v -> v.cut(0, 0));
        expect.answers("at 0 of 0 octets", 8, () -> empty.made().write(0, 0, 1L));
        argument(expect, empty, 0, 1);
    }

    static void promise03AtIsNotAboveHowManyItHas(Expect expect) {
        expect.answers("at 48 of 48", 56, () -> Scene.SOME.made().write(0, 48, 1L));
        argument(expect, Scene.SOME, 0, 49);
        expect.answers("at 3 of 3", 11, () -> Scene.SOME.made().write(31, 3, 1L));
        argument(expect, Scene.SOME, 31, 4);
        argument(expect, Scene.SOME, 31, 8);
        argument(expect, Scene.SOME, 0, Integer.MAX_VALUE);
    }

    static void promise03AnswersHowManyItHas(Expect expect) {
        for (int at = 0; at <= 16; at++) {
            RaidVault vault = fileOf(16).made();
            int from = at;
            expect.answers("at " + from + " of 16", Math.max(16, from + 8), () -> vault.write(7, from, 0L));
            expect.same("size behind it", vault.size(-1, 7), Math.max(16, from + 8));
        }
    }

    static void promise03AtIsNotAbove440(Expect expect) {
        expect.answers("at 440 of 440", 448, () -> fileOf(440).made().write(7, 440, 1L));
        expect.answers("at 440 of 441", 448, () -> fileOf(441).made().write(7, 440, 1L));
        expect.answers("at 440 of 448", 448, () -> fileOf(448).made().write(7, 440, 1L));
        expect.answers("at 439 of 440", 447, () -> fileOf(440).made().write(7, 439, 1L));
        argument(expect, fileOf(440), 7, 441);
        argument(expect, fileOf(441), 7, 441);
        argument(expect, fileOf(448), 7, 441);
        argument(expect, fileOf(448), 7, 447);
        argument(expect, fileOf(448), 7, 448);
        argument(expect, fileOf(448), 7, 449);
    }

    static void promise03TheLastEightOctets(Expect expect) {
        RaidVault vault = fileOf(440).made();
        vault.write(7, 440, 0x0102030405060708L);
        for (int i = 0; i < 8; i++) {
            int at = 440 + i;
            expect.answers("octet " + at, i + 1, () -> vault.octet(-1, 7, at));
        }
        expect.outside("octet 448", () -> vault.octet(-1, 7, 448));
        expect.answers("an octet before", Layout.octet(7, 439), () -> vault.octet(-1, 7, 439));
    }

    static void promise03IsRefusedWhenBrokenBehindArguments(Expect expect) {
        for (Scene broken : new Scene[] {Scene.BROKEN, Scene.BROKEN_REBUILT}) {
            Twins.refused(expect, Expect.STATE, "write when BROKEN", broken, v -> v.write(0, 48, 1L));
            Twins.refused(expect, Expect.STATE, "write of none when BROKEN", broken, v -> v.write(5, 0, 1L));
            argument(expect, broken, 32, 0);
            argument(expect, broken, 0, -1);
            argument(expect, broken, 0, 49);
            argument(expect, broken, 5, 1);
        }
    }

    static void promise03FullIsLookedAtLast(Expect expect) {
        Twins.refused(expect, Expect.FULL, "write when FULL", Scene.FULL_FORTY, v -> v.write(0, 0, 1L));
        Twins.refused(expect, Expect.STATE, "write when BROKEN and FULL", Scene.BROKEN_FULL_FORTY, v -> v.write(0, 0, 1L));
        argument(expect, Scene.FULL_FORTY, 0, 34);
        argument(expect, Scene.FULL_FORTY, 32, 0);
        argument(expect, Scene.BROKEN_FULL_FORTY, 0, 34);
    }

    static void promise03IsNotFullBefore40Entries(Expect expect) {
        RaidVault vault = Scene.FULL.made();
        expect.answers("a write where a POINT would be FULL", 40, () -> vault.write(3, 0, 1L));
        expect.same("entries", vault.count(2), 5);
    }

    static void promise03WritesNoPlace(Expect expect) {
        RaidVault vault = Scene.SOME.made();
        int writings = vault.count(3);
        vault.write(0, 48, 1L);
        expect.same("WRITINGS", vault.count(3), writings);
        expect.same("entries", vault.count(2), 3);
        expect.answers("octets in the SNAPSHOT", 40, () -> vault.size(1, 0));
    }
}
