/** Promises 12 to 15: fail, replace, rebuild and block. */
public final class DiskTest {
    private DiskTest() {
    }

    public static void main(String[] args) {
        Expect expect = new Expect();
        blocks(expect);
        states(expect);
        rebuildEdges(expect);
        for (int disk = 0; disk < 5; disk++) {
            filesStay(expect, disk);
            writtenWhileRebuilt(expect, disk);
        }
        broken(expect);
        brokenWhileRebuilt(expect);
        expect.end();
    }

    private static void blocks(Expect expect) {
        RaidVault vault = new RaidVault();
        Layout.grow(vault, 0, 0, 4);
        vault.point();
        for (int word = 0; word < 4; word++) {
            int w = word;
            expect.answers("word of a PIECE", Layout.value(0, w), () -> vault.block(1, 0, w));
        }
        expect.answers("a BLOCK that was not written", 0, () -> vault.block(0, 149, 3));
        expect.argument("disk -1", () -> vault.block(-1, 0, 0));
        expect.argument("disk 5", () -> vault.block(5, 0, 0));
        expect.argument("block -1", () -> vault.block(0, -1, 0));
        expect.argument("block 150", () -> vault.block(0, 150, 0));
        expect.argument("word -1", () -> vault.block(0, 0, -1));
        expect.argument("word 4", () -> vault.block(0, 0, 4));
        expect.argument("the greatest of all", () -> vault.block(Integer.MAX_VALUE, Integer.MAX_VALUE, Integer.MAX_VALUE));
        vault.fail(0);
        expect.argument("block 150 of a FAILED DISK", () -> vault.block(0, 150, 0));
        expect.state("block of a FAILED DISK", () -> vault.block(0, 0, 0));
        expect.answers("block of a SOUND DISK", Layout.value(0, 3), () -> vault.block(1, 0, 3));
    }

    private static void states(Expect expect) {
        RaidVault vault = new RaidVault();
        expect.argument("fail -1", () -> vault.fail(-1));
        expect.argument("fail 5", () -> vault.fail(5));
        expect.argument("the least fail", () -> vault.fail(Integer.MIN_VALUE));
        expect.state("replace of a SOUND one", vault::replace);
        expect.state("rebuild of a SOUND one", () -> vault.rebuild(1));
        Layout.counts(expect, "with all SOUND", vault, 0, 599, 0, 0, -1, 150, 0, 0);
        expect.goes("fail", () -> vault.fail(3));
        Layout.counts(expect, "with one FAILED", vault, 0, 599, 0, 0, 3, 0, 0, 0);
        expect.goes("fail again", () -> vault.fail(3));
        Layout.counts(expect, "with one FAILED again", vault, 0, 599, 0, 0, 3, 0, 0, 0);
        expect.state("rebuild of a FAILED one", () -> vault.rebuild(1));
        expect.argument("rebuild of less than none", () -> vault.rebuild(-1));
        expect.goes("replace", vault::replace);
        Layout.counts(expect, "with another one", vault, 0, 599, 0, 0, 3, 0, 0, 0);
        expect.state("replace again", vault::replace);
        expect.answers("rebuild 0", 0, () -> vault.rebuild(0));
        expect.answers("rebuild 7", 7, () -> vault.rebuild(7));
        Layout.counts(expect, "with one REBUILT up to 7", vault, 0, 599, 0, 0, 3, 7, 0, 0);
        expect.state("replace of a REBUILT one", vault::replace);
        expect.goes("fail of a REBUILT one", () -> vault.fail(3));
        Layout.counts(expect, "with one FAILED anew", vault, 0, 599, 0, 0, 3, 0, 0, 0);
        expect.state("rebuild of one that FAILED anew", () -> vault.rebuild(1));
        expect.state("block of one that FAILED anew", () -> vault.block(3, 0, 0));
        expect.goes("replace of it", vault::replace);
        expect.answers("it begins at 0", 3, () -> vault.rebuild(3));
    }

    private static void rebuildEdges(Expect expect) {
        RaidVault vault = new RaidVault();
        vault.fail(0);
        vault.replace();
        expect.answers("rebuild 149", 149, () -> vault.rebuild(149));
        expect.answers("rebuild 0 with 149", 149, () -> vault.rebuild(0));
        expect.same("not SOUND with 149", vault.count(4), 0);
        expect.argument("rebuild -1", () -> vault.rebuild(-1));
        expect.argument("the least rebuild", () -> vault.rebuild(Integer.MIN_VALUE));
        expect.answers("the greatest rebuild", 150, () -> vault.rebuild(Integer.MAX_VALUE));
        Layout.counts(expect, "with all SOUND again", vault, 0, 599, 0, 0, -1, 150, 0, 0);
        expect.state("rebuild of what is SOUND", () -> vault.rebuild(0));
        expect.argument("rebuild of less than none", () -> vault.rebuild(-1));
        expect.state("replace of what is SOUND", vault::replace);
        expect.goes("another one may fail now", () -> vault.fail(1));
        expect.same("that is not BROKEN", vault.count(6), 0);
    }

    private static void look(Expect expect, String when, RaidVault vault, int k, int file, int words) {
        expect.same("size " + when, vault.size(k, file), 8 * words);
        for (int at = 0; at < 8 * words; at++) {
            expect.same("octet " + at + " " + when, vault.octet(k, file, at), Layout.octet(file, at));
        }
    }

    private static void filesStay(Expect expect, int disk) {
        RaidVault vault = new RaidVault();
        Layout.grow(vault, 0, 0, 30);
        vault.snapshot(0);
        vault.fail(disk);
        look(expect, "in a SNAPSHOT with a FAILED DISK", vault, 0, 0, 30);
        vault.crash(0, false);
        look(expect, "read back with a FAILED DISK", vault, -1, 0, 30);
        Layout.grow(vault, 17, 0, 30);
        vault.snapshot(1);
        vault.crash(0, false);
        look(expect, "written with a FAILED DISK", vault, -1, 17, 30);
        expect.same("WRITINGS of PLACES that can not be used count", vault.count(3), 12 + 12);
        vault.replace();
        look(expect, "with another DISK", vault, 1, 17, 30);
        for (int i = 0; i < 4; i++) {
            expect.same("the other DISK is all 0", vault.block(disk, i, 0), 0);
        }
        int writings = vault.count(3);
        vault.rebuild(150);
        expect.same("rebuild writes no PLACES", vault.count(3), writings);
        vault.crash(0, false);
        look(expect, "behind rebuild", vault, -1, 0, 30);
        look(expect, "behind rebuild", vault, 1, 17, 30);
        Layout.parity(expect, "behind rebuild", vault);
        vault.fail((disk + 1) % 5);
        vault.crash(0, false);
        look(expect, "with the next DISK FAILED", vault, -1, 17, 30);
    }

    /** STRIPES below the one up to which it is REBUILT are written, the others are not. */
    private static void writtenWhileRebuilt(Expect expect, int disk) {
        RaidVault sound = new RaidVault();
        RaidVault vault = new RaidVault();
        RaidVault[] both = {sound, vault};
        for (RaidVault one : both) {
            Layout.grow(one, 0, 0, 40);
            one.point();
        }
        vault.fail(disk);
        vault.replace();
        vault.rebuild(4);
        for (RaidVault one : both) {
            Layout.grow(one, 1, 0, 40);
            one.point();
            Layout.grow(one, 2, 0, 4);
            one.point();
            one.cut(0, 7);
            one.point();
            one.write(0, 0, 5L);
            one.point();
        }
        for (int block = 0; block < 10; block++) {
            for (int word = 0; word < 4; word++) {
                long due = block < 4 ? sound.block(disk, block, word) : 0L;
                expect.same("BLOCK " + block + " of DISK " + disk, vault.block(disk, block, word), due);
            }
        }
        vault.crash(0, false);
        look(expect, "while REBUILT", vault, -1, 1, 40);
        vault.rebuild(1);
        expect.same("BLOCK 4 is REBUILT", vault.block(disk, 4, 1), sound.block(disk, 4, 1));
        expect.same("BLOCK 5 is not", vault.block(disk, 5, 1), 0);
        vault.rebuild(145);
        for (int d = 0; d < 5; d++) {
            for (int block = 0; block < 150; block++) {
                expect.same("a BLOCK behind rebuild", vault.block(d, block, 0), sound.block(d, block, 0));
                expect.same("a BLOCK behind rebuild", vault.block(d, block, 3), sound.block(d, block, 3));
            }
        }
    }

    private static void broken(Expect expect) {
        RaidVault vault = new RaidVault();
        vault.write(0, 0, -3L);
        vault.point();
        vault.write(1, 0, -3L);
        vault.fail(0);
        expect.goes("a second DISK fails", () -> vault.fail(1));
        Layout.counts(expect, "when BROKEN", vault, 1, 596, 1, 4, 0, 0, 1, 2);
        expect.answers("block of the second one", -3L, () -> vault.block(1, 0, 0));
        expect.state("block of the first one", () -> vault.block(0, 0, 0));
        expect.argument("block 150", () -> vault.block(1, 150, 0));
        expect.state("fail of the first one", () -> vault.fail(0));
        expect.state("fail of a third one", () -> vault.fail(2));
        expect.argument("fail of none", () -> vault.fail(5));
        expect.state("replace", vault::replace);
        expect.state("rebuild", () -> vault.rebuild(1));
        expect.argument("rebuild of less than none", () -> vault.rebuild(-1));
        Layout.counts(expect, "when BROKEN still", vault, 1, 596, 1, 4, 0, 0, 1, 2);
    }

    private static void brokenWhileRebuilt(Expect expect) {
        RaidVault vault = new RaidVault();
        vault.write(0, 0, -3L);
        vault.point();
        vault.fail(1);
        vault.replace();
        vault.rebuild(20);
        expect.goes("a second DISK fails", () -> vault.fail(4));
        Layout.counts(expect, "when BROKEN", vault, 1, 596, 0, 4, 1, 20, 1, 1);
        expect.answers("block of the first one", -3L, () -> vault.block(1, 0, 0));
        expect.answers("block of the second one", vault.block(0, 0, 0) ^ vault.block(1, 0, 0) ^ vault.block(2, 0, 0)
                ^ vault.block(3, 0, 0), () -> vault.block(4, 0, 0));
        expect.state("rebuild", () -> vault.rebuild(130));
        expect.state("replace", vault::replace);
    }
}
