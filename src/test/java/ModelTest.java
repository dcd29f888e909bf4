import java.util.Random;

/**
 * Long runs of calls, the same ones each time, on RaidVault and on the plain model beside it. The looks at
 * the state between them go beyond the 512 calls that the document promises for: RaidVault has no such limit.
 */
public final class ModelTest {
    private static final int RUNS = 240;
    private static final int CALLS = 512;
    /** So many writes to all FILES in turn leave few PLACES: five SNAPSHOTS of 32, and 32 more. */
    private static final int SWEPT = 192;

    private final Expect expect;
    private final Random dice;
    private final RaidVault vault = new RaidVault();
    private final PlainVault plain = new PlainVault();
    private final int run;
    private final int style;
    private int call;
    private int full;
    private int fullWithoutADisk;
    private int sweep;

    private ModelTest(Expect expect, int run) {
        this.expect = expect;
        this.run = run;
        this.style = run % 6;
        this.dice = new Random(run);
    }

    public static void main(String[] args) {
        Expect expect = new Expect();
        int full = 0;
        int fullWithoutADisk = 0;
        for (int run = 0; run < RUNS; run++) {
            ModelTest test = new ModelTest(expect, run);
            test.play();
            full += test.full;
            fullWithoutADisk += test.fullWithoutADisk;
        }
        System.out.println("calls that were FULL: " + full + ", with a disk not sound: " + fullWithoutADisk);
        expect.same("some runs come to FULL", full > 1000 ? 1 : 0, 1);
        expect.same("some of them with a disk that is not sound", fullWithoutADisk > 400 ? 1 : 0, 1);
        expect.end();
    }

    private void play() {
        for (call = 0; call < CALLS; call++) {
            if (style == 4 || style == 5) {
                fillingCall();
            } else {
                mixedCall();
            }
            for (int what = 0; what < 8; what++) {
                if (vault.count(what) != plain.count(what)) {
                    expect.same(told("count " + what), vault.count(what), plain.count(what));
                }
            }
            if (call % 128 == 127) {
                wholeState();
            }
        }
    }

    private void mixedCall() {
        int pick = dice.nextInt(100);
        if (pick < 45) {
            writeSomewhere();
        } else if (pick < 53) {
            cutSomewhere();
        } else if (pick < 57) {
            removeSomewhere();
        } else if (pick < 65) {
            readSomewhere();
        } else if (pick < 72) {
            both("point", () -> vault.point(), () -> plain.point());
        } else if (pick < 77) {
            int k = odd(dice.nextInt(7) - 1);
            both("snapshot " + k, Expect.asCall(() -> vault.snapshot(k)), Expect.asCall(() -> plain.snapshot(k)));
        } else if (pick < 80) {
            int k = odd(dice.nextInt(7) - 1);
            both("drop " + k, Expect.asCall(() -> vault.drop(k)), Expect.asCall(() -> plain.drop(k)));
        } else if (pick < 87) {
            crashNow();
        } else if (pick < 99) {
            diskCall();
        } else {
            plain.begin();
            vault.begin();
        }
    }

    /** FILES of two PIECES, written again in whole between SNAPSHOTS: so the PLACES come to an end. */
    private void fillingCall() {
        int pick = dice.nextInt(100);
        if (call < 160) {
            int file = call / 5;
            int at = call % 5 * 8;
            both("write", () -> vault.write(file, at, call), () -> plain.write(file, at, call));
        } else if (call == 160 && style == 5) {
            int disk = run / 6 % 5;
            both("fail " + disk, Expect.asCall(() -> vault.fail(disk)), Expect.asCall(() -> plain.fail(disk)));
        } else if (pick < 86) {
            sweepOn();
        } else if (pick < 88 && style == 5) {
            rebuildABit();
        } else if (pick < 91 || sweep < SWEPT) {
            readSomewhere();
        } else if (pick < 94) {
            removeSomewhere();
        } else if (pick < 96) {
            cutSomewhere();
        } else if (pick < 98) {
            both("point", () -> vault.point(), () -> plain.point());
        } else if (pick < 99) {
            crashNow();
        } else {
            int k = dice.nextInt(5);
            both("drop " + k, Expect.asCall(() -> vault.drop(k)), Expect.asCall(() -> plain.drop(k)));
        }
    }

    private void sweepOn() {
        int file = sweep++ % 32;
        long v = dice.nextLong();
        both("write " + file, () -> vault.write(file, 28, v), () -> plain.write(file, 28, v));
        if (sweep % 32 == 0 && sweep < SWEPT) {
            int k = sweep / 32 - 1;
            both("snapshot " + k, Expect.asCall(() -> vault.snapshot(k)), Expect.asCall(() -> plain.snapshot(k)));
        }
    }

    /** In half of these runs the disk stays FAILED, in the others it is REBUILT in part when all is FULL. */
    private void rebuildABit() {
        if (run % 4 == 1) {
            both("replace", Expect.asCall(vault::replace), Expect.asCall(plain::replace));
        }
        int n = dice.nextInt(20);
        both("rebuild " + n, () -> vault.rebuild(n), () -> plain.rebuild(n));
    }

    private void writeSomewhere() {
        int file = someFile();
        int size = sizeOf(file);
        int at = dice.nextInt(4) == 0 ? dice.nextInt(size + 2) : size;
        if (dice.nextInt(30) == 0) {
            at = dice.nextInt(500) - 20;
        }
        int from = odd(at);
        long v = dice.nextInt(5) == 0 ? -1L : dice.nextLong();
        both("write " + file + " " + from, () -> vault.write(file, from, v), () -> plain.write(file, from, v));
    }

    private void cutSomewhere() {
        int file = someFile();
        int n = odd(dice.nextInt(sizeOf(file) + 3) - 1);
        both("cut " + file + " " + n, Expect.asCall(() -> vault.cut(file, n)), Expect.asCall(() -> plain.cut(file, n)));
    }

    private void removeSomewhere() {
        int file = someFile();
        both("remove " + file, Expect.asCall(() -> vault.remove(file)), Expect.asCall(() -> plain.remove(file)));
    }

    private void readSomewhere() {
        int k = odd(dice.nextInt(8) - 2);
        int file = someFile();
        int at = odd(dice.nextInt(60) - 2);
        both("size " + k + " " + file, () -> vault.size(k, file), () -> plain.size(k, file));
        both("octet " + k + " " + file + " " + at, () -> vault.octet(k, file, at), () -> plain.octet(k, file, at));
    }

    private void crashNow() {
        int n = odd(dice.nextInt(3) == 0 ? dice.nextInt(120) : dice.nextInt(12) - 1);
        boolean log = dice.nextInt(4) != 0;
        both("crash " + n + " " + log, () -> vault.crash(n, log) ? 1 : 0, () -> plain.crash(n, log) ? 1 : 0);
    }

    private void diskCall() {
        int pick = dice.nextInt(20);
        int weak = vault.count(4);
        if (pick < 4) {
            // Another disk only now and then, so that not every run is BROKEN soon.
            int disk = weak >= 0 && dice.nextInt(20) != 0 ? weak : dice.nextInt(7) - 1;
            both("fail " + disk, Expect.asCall(() -> vault.fail(disk)), Expect.asCall(() -> plain.fail(disk)));
        } else if (pick < 9) {
            both("replace", Expect.asCall(vault::replace), Expect.asCall(plain::replace));
        } else if (pick < 15) {
            int n = odd(dice.nextInt(90) - 1);
            both("rebuild " + n, () -> vault.rebuild(n), () -> plain.rebuild(n));
        } else {
            int disk = odd(dice.nextInt(7) - 1);
            int block = odd(dice.nextInt(20) == 0 ? dice.nextInt(160) - 2 : dice.nextInt(30));
            int word = odd(dice.nextInt(6) - 1);
            both("block " + disk + " " + block + " " + word,
                    () -> vault.block(disk, block, word), () -> plain.block(disk, block, word));
        }
    }

    /** Few FILES in some styles, so that they grow long; all of them in others. */
    private int someFile() {
        if (dice.nextInt(60) == 0) {
            return odd(dice.nextInt(40) - 4);
        }
        if (style == 0) {
            return dice.nextInt(3) * 15;
        }
        return style == 1 ? 31 : dice.nextInt(32);
    }

    /** Now and then a number from the ends of int instead, where sums and products wrap around. */
    private int odd(int usual) {
        if (dice.nextInt(40) != 0) {
            return usual;
        }
        int end = dice.nextInt(3);
        int offset = dice.nextInt(4);
        return end == 0 ? Integer.MIN_VALUE + offset : end == 1 ? Integer.MAX_VALUE - offset : dice.nextInt();
    }

    private int sizeOf(int file) {
        if (file < 0 || file > 31 || vault.count(6) == 1) {
            return 0;
        }
        return Math.max(0, vault.size(-1, file));
    }

    private void wholeState() {
        for (int disk = 0; disk < 5; disk++) {
            for (int block = 0; block < 150; block++) {
                for (int word = 0; word < 4; word++) {
                    int d = disk;
                    int b = block;
                    int w = word;
                    both("block", () -> vault.block(d, b, w), () -> plain.block(d, b, w));
                }
            }
        }
        for (int k = -1; k < 5; k++) {
            for (int file = 0; file < 32; file++) {
                int s = k;
                int f = file;
                String size = both("size", () -> vault.size(s, f), () -> plain.size(s, f));
                int octets = size.endsWith("Exception") ? 0 : Integer.parseInt(size);
                for (int at = 0; at < octets; at++) {
                    int a = at;
                    both("octet", () -> vault.octet(s, f, a), () -> plain.octet(s, f, a));
                }
            }
        }
    }

    private String both(String what, Expect.Call ofVault, Expect.Call ofPlain) {
        String due = Expect.outcome(ofPlain);
        String got = Expect.outcome(ofVault);
        if (due.endsWith("UnsupportedOperationException")) {
            full++;
            fullWithoutADisk += plain.count(4) >= 0 ? 1 : 0;
        }
        if (!got.equals(due)) {
            System.out.println(told(what) + " gave " + got + ", due is " + due);
        }
        expect.same("an answer", got.equals(due) ? 1 : 0, 1);
        return got;
    }

    private String told(String what) {
        return "run " + run + ", call " + call + ": " + what;
    }
}
