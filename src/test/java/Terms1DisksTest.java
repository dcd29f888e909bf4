/** Terms 1: DISKS, PLACES, PARITY, and what FAILED, REBUILT and BROKEN mean; shown by the promises that need them. */
public final class Terms1DisksTest {
    private Terms1DisksTest() {
    }

    public static void main(String[] args) {
        Tests.run(Terms1DisksTest.class);
    }

    /** PLACES 1 to 7 in STRIPES 0 and 1: PIECE and INODE of FILES 0, 1 and 2, and a half of the MAP. */
    private static final Scene THREE_FILES = vault -> {
        vault.write(0, 0, 0x1111111111111111L);
        vault.write(1, 0, 0x2222222222222222L);
        vault.write(2, 0, 0x3333333333333333L);
        vault.point();
    };

    private static Scene rebuiltUpTo(int disk, int stripes) {
        return vault -> {
            vault.fail(disk);
            vault.replace();
            vault.rebuild(stripes);
        };
    }

    static void term1Promise15PlacePIsBlockPDividedBy4OfDiskPModulo4(Expect expect) {
        RaidVault vault = THREE_FILES.made();
        expect.answers("PLACE 0 has INFO", 0x0000000100070000L, () -> vault.block(0, 0, 0));
        expect.answers("PLACE 1", 0x1111111111111111L, () -> vault.block(1, 0, 0));
        expect.answers("PLACE 2", 0x0008000100000000L, () -> vault.block(2, 0, 0));
        expect.answers("PLACE 3", 0x2222222222222222L, () -> vault.block(3, 0, 0));
        expect.answers("PLACE 4", 0x0008000300000000L, () -> vault.block(0, 1, 0));
        expect.answers("PLACE 5", 0x3333333333333333L, () -> vault.block(1, 1, 0));
        expect.answers("PLACE 6", 0x0008000500000000L, () -> vault.block(2, 1, 0));
        expect.answers("PLACE 7", 0x0002000400060000L, () -> vault.block(3, 1, 0));
        expect.answers("PLACE 8", 0, () -> vault.block(0, 2, 0));
    }

    /** All FREE PLACES are taken by this POINT, the last one for the second half of the MAP. */
    static void term1Promise08TheLastPlaceIs599(Expect expect) {
        RaidVault vault = Scene.JUST_ENOUGH.then(RaidVault::point).made();
        expect.same("PLACE of the second half", Layout.number(vault, 0, 3), 599);
        int inode = (int) (vault.block(3, 149, 0) >>> 48);
        expect.same("octets of FILE 16", Layout.number(vault, inode, 0), 40);
        vault.crash(0, false);
        expect.answers("FILE 16 read back", 255, () -> vault.octet(-1, 16, 35));
        expect.answers("FILE 31 read back", 5, () -> vault.octet(-1, 31, 35));
    }

    static void term1Promise15ParityIsTheExclusiveOrOfTheOthers(Expect expect) {
        RaidVault vault = THREE_FILES.made();
        expect.answers("PARITY of STRIPE 0", 0x0000000100070000L ^ 0x1111111111111111L ^ 0x0008000100000000L
                ^ 0x2222222222222222L, () -> vault.block(4, 0, 0));
        expect.answers("PARITY of STRIPE 1", 0x0008000300000000L ^ 0x3333333333333333L ^ 0x0008000500000000L
                ^ 0x0002000400060000L, () -> vault.block(4, 1, 0));
        expect.answers("PARITY of STRIPE 2", 0, () -> vault.block(4, 2, 0));
    }

    static void term1Promise15ParityOfTheFirstAndTheLastStripes(Expect expect) {
        RaidVault vault = Scene.JUST_ENOUGH.then(RaidVault::point).made();
        for (int stripe : new int[] {0, 1, 75, 148, 149}) {
            Layout.parity(expect, vault, stripe);
        }
    }

    static void term1Promise15ParityBehindACrashInTheMiddle(Expect expect) {
        for (int n = 0; n < 8; n++) {
            RaidVault vault = THREE_FILES.made();
            vault.write(0, 8, -1L);
            vault.write(2, 0, -1L);
            vault.crash(n, false);
            for (int stripe = 0; stripe < 4; stripe++) {
                Layout.parity(expect, vault, stripe);
            }
        }
    }

    /** No answer, and no BLOCK behind rebuild, tells that the DISK was away while PLACES were written. */
    static void term1Promise14WhatIsWrittenWhileFailedIsThereBehindRebuild(Expect expect) {
        Scene changes = vault -> {
            Layout.grow(vault, 9, 0, 30);
            vault.snapshot(0);
            vault.cut(0, 7);
            vault.remove(31);
            vault.write(1, 0, 1L);
            vault.crash(3, true);
            vault.point();
            vault.drop(1);
        };
        for (int i = 0; i < 5; i++) {
            int disk = i;
            Scene failed = Scene.SOME.then(v -> v.fail(disk)).then(changes);
            Scene rebuilt = failed.then(RaidVault::replace).then(v -> v.rebuild(150));
            Twins.same(expect, "written with DISK " + disk + " FAILED", rebuilt, Scene.SOME.then(changes));
            Scene partly = Scene.SOME.then(rebuiltUpTo(disk, 2)).then(changes).then(v -> v.rebuild(148));
            Twins.same(expect, "written with DISK " + disk + " REBUILT up to 2", partly, Scene.SOME.then(changes));
        }
    }

    static void term1Promise07AllOfAFailedDiskIsReckoned(Expect expect) {
        for (int disk = 0; disk < 5; disk++) {
            RaidVault vault = new RaidVault();
            Layout.grow(vault, 0, 0, 20);
            vault.snapshot(0);
            vault.fail(disk);
            Layout.grown(expect, vault, 0, 0, 20);
            Layout.grow(vault, 17, 0, 4);
            vault.snapshot(1);
            vault.crash(0, false);
            Layout.grown(expect, vault, -1, 17, 4);
            expect.same("WRITINGS of PLACES that can not be used count", vault.count(3), 9 + 5);
        }
    }

    static void term1Promise15AFailedDiskIsNotWritten(Expect expect) {
        for (int i = 0; i < 5; i++) {
            int disk = i;
            Scene failed = THREE_FILES.then(v -> v.fail(disk));
            Scene written = failed.then(v -> v.write(0, 8, -1L)).then(RaidVault::point);
            RaidVault vault = written.then(RaidVault::replace).made();
            for (int block = 0; block < 4; block++) {
                expect.same("BLOCK " + block + " of DISK " + disk, vault.block(disk, block, 0), 0);
            }
        }
    }

    static void term1Promise15StripesFromThereOnAreNotWritten(Expect expect) {
        RaidVault sound = THREE_FILES.made();
        for (int disk = 0; disk < 5; disk++) {
            for (int stripes = 0; stripes <= 2; stripes++) {
                RaidVault vault = rebuiltUpTo(disk, stripes).then(THREE_FILES).made();
                for (int block = 0; block < 3; block++) {
                    long due = block < stripes ? sound.block(disk, block, 0) : 0;
                    expect.same("BLOCK " + block + " of DISK " + disk + " REBUILT up to " + stripes,
                            vault.block(disk, block, 0), due);
                }
                vault.crash(0, false);
                expect.answers("FILE 0", 0x11, () -> vault.octet(-1, 0, 0));
                expect.answers("FILE 1", 0x22, () -> vault.octet(-1, 1, 7));
                expect.answers("FILE 2", 0x33, () -> vault.octet(-1, 2, 3));
            }
        }
    }

    static void term1Promise14TheLastStripeIsNotWrittenBeforeItIsRebuilt(Expect expect) {
        Scene sound = Scene.JUST_ENOUGH.then(RaidVault::point);
        for (int stripes = 148; stripes <= 149; stripes++) {
            RaidVault vault = Scene.JUST_ENOUGH.then(rebuiltUpTo(3, stripes)).then(RaidVault::point).made();
            for (int word = 0; word < 4; word++) {
                expect.same("BLOCK 149 with " + stripes, vault.block(3, 149, word), 0);
            }
            vault.crash(0, false);
            expect.answers("FILE 16 read out of the others", 255, () -> vault.octet(-1, 16, 35));
            vault.rebuild(150 - stripes);
            RaidVault due = sound.made();
            for (int word = 0; word < 4; word++) {
                expect.same("BLOCK 149 behind rebuild", vault.block(3, 149, word), due.block(3, 149, word));
            }
        }
    }

    static void term1Promise15ParityIsThatOfWhatShouldStandThere(Expect expect) {
        RaidVault sound = THREE_FILES.made();
        for (int i = 0; i < 4; i++) {
            int disk = i;
            RaidVault failed = new RaidVault();
            failed.fail(disk);
            THREE_FILES.play(failed);
            RaidVault rebuilt = rebuiltUpTo(disk, 1).then(THREE_FILES).made();
            for (int stripe = 0; stripe < 2; stripe++) {
                expect.same("PARITY with DISK FAILED", failed.block(4, stripe, 0), sound.block(4, stripe, 0));
                expect.same("PARITY with DISK REBUILT", rebuilt.block(4, stripe, 0), sound.block(4, stripe, 0));
            }
        }
    }

    static void term1Promise12ASecondOneThatFailsBreaksAll(Expect expect) {
        for (int first = 0; first < 5; first++) {
            for (int second = 0; second < 5; second++) {
                RaidVault vault = Scene.SOME.made();
                vault.fail(first);
                vault.fail(second);
                int broken = first == second ? 0 : 1;
                expect.same("BROKEN behind " + first + " and " + second, vault.count(6), broken);
                RaidVault rebuilt = Scene.SOME.then(rebuiltUpTo(first, 149)).made();
                rebuilt.fail(second);
                expect.same("BROKEN behind " + first + " REBUILT and " + second, rebuilt.count(6), broken);
                RaidVault sound = Scene.SOME.then(rebuiltUpTo(first, 150)).made();
                sound.fail(second);
                expect.same("BROKEN behind " + first + " SOUND again and " + second, sound.count(6), 0);
            }
        }
    }

    static void term1Promise16TheSecondOneCountsAsSoundStill(Expect expect) {
        RaidVault sound = Scene.SOME.made();
        RaidVault vault = Scene.SOME.made();
        vault.fail(3);
        vault.fail(1);
        expect.same("the DISK that is not SOUND", vault.count(4), 3);
        expect.same("up to which it is REBUILT", vault.count(5), 0);
        expect.answers("a BLOCK of the second one", sound.block(1, 0, 0), () -> vault.block(1, 0, 0));
        expect.state("a BLOCK of the first one", () -> vault.block(3, 0, 0));
    }

    static void term1Promise08BrokenFromThenOn(Expect expect) {
        RaidVault vault = Scene.BROKEN.made();
        expect.state("replace of the first one", vault::replace);
        expect.state("rebuild", () -> vault.rebuild(150));
        expect.state("point", vault::point);
        expect.state("crash", () -> vault.crash(0, true) ? 1 : 0);
        expect.state("size", () -> vault.size(-1, 0));
        expect.same("BROKEN", vault.count(6), 1);
        vault.begin();
        expect.same("BROKEN behind begin", vault.count(6), 0);
    }
}
