/** A run of calls that brings a new object to a state; played again it comes to the same one. */
interface Scene {
    /** Nothing was called yet. */
    Scene NEW = vault -> { };

    /** FILE 0 has 48 octets (40 in SNAPSHOT 1), FILE 31 three (eight there); two entries in the LOG. */
    Scene SOME = vault -> {
        Layout.grow(vault, 0, 0, 5);
        vault.write(31, 0, Layout.value(31, 0));
        vault.snapshot(1);
        vault.write(0, 40, Layout.value(0, 5));
        vault.cut(31, 3);
    };

    /** As SOME, but with 40 entries in the LOG. */
    Scene FORTY = SOME.then(vault -> {
        for (int i = 0; i < 38; i++) {
            vault.write(7, 0, i);
        }
    });

    Scene FAILED = SOME.then(vault -> vault.fail(2));

    /** DISK 2 is REBUILT up to STRIPE 1. */
    Scene REBUILT = FAILED.then(vault -> {
        vault.replace();
        vault.rebuild(1);
    });

    Scene BROKEN = FAILED.then(vault -> vault.fail(0));

    Scene BROKEN_REBUILT = REBUILT.then(vault -> vault.fail(0));

    /**
     * 32 FILES of two PIECES in six versions that share no PLACE: the MAP's and five SNAPSHOTS', of 98
     * PLACES each. 358 calls; 11 PLACES are FREE behind it.
     */
    Scene NEARLY_FULL = vault -> {
        growAll(vault);
        makeVersions(vault);
    };

    /** As NEARLY_FULL, with 11 PIECES more in FILE 0 that all versions share: no PLACE is FREE. 405 calls. */
    Scene WITHOUT_FREE = vault -> {
        growAll(vault);
        Layout.grow(vault, 0, 5, 52);
        makeVersions(vault);
    };

    /** A POINT would need just the 11 PLACES that are FREE: six PIECES, three INODES and both halves. */
    Scene JUST_ENOUGH = NEARLY_FULL.then(vault -> {
        vault.write(0, 28, -1L);
        vault.write(1, 28, -1L);
        vault.write(16, 28, -1L);
    });

    /** A POINT would need one PLACE more than are FREE: an INODE more. */
    Scene FULL = JUST_ENOUGH.then(vault -> vault.cut(2, 3));

    /** With 40 entries in the LOG, and a POINT would be FULL. */
    Scene FULL_FORTY = NEARLY_FULL.then(vault -> {
        for (int i = 0; i < 40; i++) {
            vault.cut(i % 32, 33);
        }
    });

    Scene BROKEN_FULL_FORTY = FULL_FORTY.then(vault -> {
        vault.fail(0);
        vault.fail(1);
    });

    void play(RaidVault vault);

    default Scene then(Scene next) {
        return vault -> {
            play(vault);
            next.play(vault);
        };
    }

    default RaidVault made() {
        RaidVault vault = new RaidVault();
        play(vault);
        return vault;
    }

    private static void growAll(RaidVault vault) {
        for (int file = 0; file < 32; file++) {
            Layout.grow(vault, file, 0, 5);
        }
    }

    private static void makeVersions(RaidVault vault) {
        for (int version = 0; version < 6; version++) {
            for (int file = 0; file < 32; file++) {
                vault.write(file, 28, version);
            }
            if (version < 5) {
                vault.snapshot(version);
            } else {
                vault.point();
            }
        }
    }
}
