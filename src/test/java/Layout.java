/** Looks at what stands on the DISKS, and at the FILES, in ways that many tests need. */
final class Layout {
    private Layout() {
    }

    static long word(RaidVault vault, int place, int word) {
        return vault.block(place % 4, place / 4, word);
    }

    static int number(RaidVault vault, int place, int i) {
        return (int) (word(vault, place, i / 4) >>> (48 - 16 * (i % 4))) & 0xFFFF;
    }

    /** The PLACE of a FILE's INODE by what stands: 0 if it is none. */
    static int inode(RaidVault vault, int file) {
        int half = number(vault, 0, 2 + file / 16);
        return half == 0 ? 0 : number(vault, half, file % 16);
    }

    /** Looks at all 16 numbers at a PLACE; those that are not told are due to be 0. */
    static void numbers(Expect expect, RaidVault vault, int place, int... want) {
        for (int i = 0; i < 16; i++) {
            expect.same("number " + i + " at PLACE " + place, number(vault, place, i), i < want.length ? want[i] : 0);
        }
    }

    /** Looks at all 4 words at a PLACE; those that are not told are due to be 0. */
    static void words(Expect expect, RaidVault vault, int place, long... want) {
        for (int i = 0; i < 4; i++) {
            expect.same("word " + i + " at PLACE " + place, word(vault, place, i), i < want.length ? want[i] : 0);
        }
    }

    /** Looks at all counts. */
    static void counts(Expect expect, String when, RaidVault vault, int... want) {
        for (int what = 0; what < 8; what++) {
            expect.same("count(" + what + ") " + when, vault.count(what), want[what]);
        }
    }

    /** Whether PARITY is right in a STRIPE; only where all DISKS can be used. */
    static void parity(Expect expect, RaidVault vault, int stripe) {
        for (int word = 0; word < 4; word++) {
            long sum = 0;
            for (int disk = 0; disk < 4; disk++) {
                sum ^= vault.block(disk, stripe, word);
            }
            expect.same("PARITY of STRIPE " + stripe, vault.block(4, stripe, word), sum);
        }
    }

    /** Looks at all octets of a FILE as it is now, and at the one that there is not. */
    static void octets(Expect expect, RaidVault vault, int file, int... want) {
        expect.answers("size of FILE " + file, want.length, () -> vault.size(-1, file));
        for (int i = 0; i < want.length; i++) {
            int at = i;
            expect.answers("octet " + at + " of FILE " + file, want[i], () -> vault.octet(-1, file, at));
        }
        expect.outside("octet behind FILE " + file, () -> vault.octet(-1, file, want.length));
    }

    /** Looks at a FILE that grow() has made. */
    static void grown(Expect expect, RaidVault vault, int k, int file, int words) {
        expect.same("size of FILE " + file, vault.size(k, file), 8 * words);
        for (int at = 0; at < 8 * words; at++) {
            expect.same("octet " + at + " of FILE " + file, vault.octet(k, file, at), octet(file, at));
        }
    }

    /** Puts octets 8 * from up to 8 * to into a FILE, each word a different value. */
    static void grow(RaidVault vault, int file, int from, int to) {
        for (int i = from; i < to; i++) {
            vault.write(file, 8 * i, value(file, i));
        }
    }

    static long value(int file, int i) {
        return 0x0102030405060708L * (i + 1) + 1000L * file;
    }

    /** An octet of a FILE as grow() makes it. */
    static int octet(int file, int at) {
        return (int) (value(file, at / 8) >>> (56 - 8 * (at % 8))) & 255;
    }
}
