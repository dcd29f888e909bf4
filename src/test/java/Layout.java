/** Reads what stands at a PLACE through block(), and brings a vault to states that many tests need. */
final class Layout {
    private Layout() {
    }

    static long word(RaidVault vault, int place, int word) {
        return vault.block(place % 4, place / 4, word);
    }

    static int number(RaidVault vault, int place, int i) {
        return (int) (word(vault, place, i / 4) >>> (48 - 16 * (i % 4))) & 0xFFFF;
    }

    /** Looks at all 16 numbers at a PLACE; those that are not told are due to be 0. */
    static void numbers(Expect expect, RaidVault vault, int place, int... want) {
        for (int i = 0; i < 16; i++) {
            expect.same("number " + i + " at PLACE " + place, number(vault, place, i), i < want.length ? want[i] : 0);
        }
    }

    /** Looks at all 4 words at a PLACE; those that are not told are due to be 0. */
    static void words(Expect expect, RaidVault vault, int place, long... want) {
        for (int i = 0; i < 4; i++) {
            expect.same("word " + i + " at PLACE " + place, word(vault, place, i), i < want.length ? want[i] : 0);
        }
    }

    /** Looks at all counts. */
    static void counts(Expect expect, String when, RaidVault vault, int... want) {
        for (int what = 0; what < 8; what++) {
            expect.same("count(" + what + ") " + when, vault.count(what), want[what]);
        }
    }

    /** Whether PARITY is right in every STRIPE; only with all DISKS SOUND. */
    static void parity(Expect expect, String when, RaidVault vault) {
        for (int stripe = 0; stripe < 150; stripe++) {
            for (int word = 0; word < 4; word++) {
                long sum = 0;
                for (int disk = 0; disk < 5; disk++) {
                    sum ^= vault.block(disk, stripe, word);
                }
                if (sum != 0) {
                    expect.same("PARITY of STRIPE " + stripe + " " + when, sum, 0);
                }
            }
        }
        expect.same("PARITY was looked at", 1, 1);
    }

    /** Puts octets 8 * from up to 8 * to into a FILE, each word a different value. */
    static void grow(RaidVault vault, int file, int from, int to) {
        for (int i = from; i < to; i++) {
            vault.write(file, 8 * i, value(file, i));
        }
    }

    static long value(int file, int i) {
        return 0x0102030405060708L * (i + 1) + 1000L * file;
    }

    /** An octet of a FILE as grow() makes it. */
    static int octet(int file, int at) {
        return (int) (value(file, at / 8) >>> (56 - 8 * (at % 8))) & 255;
    }

    /**
     * 32 FILES of two PIECES in six versions that share no PLACE: the MAP's and five SNAPSHOTS', of 98
     * PLACES each. 358 calls; 11 PLACES are FREE behind it.
     */
    static RaidVault nearlyFull() {
        RaidVault vault = new RaidVault();
        for (int file = 0; file < 32; file++) {
            grow(vault, file, 0, 5);
        }
        for (int version = 0; version < 6; version++) {
            for (int file = 0; file < 32; file++) {
                vault.write(file, 28, version);
            }
            if (version < 5) {
                vault.snapshot(version);
            } else {
                vault.point();
            }
        }
        return vault;
    }

    static RaidVault broken() {
        RaidVault vault = new RaidVault();
        vault.write(5, 0, -1L);
        vault.snapshot(3);
        vault.write(6, 0, 7L);
        vault.fail(2);
        vault.fail(0);
        return vault;
    }
}
