import java.util.ArrayList;
import java.util.List;
import java.util.TreeMap;
import java.util.TreeSet;

/**
 * The document told again in the plainest way, to compare RaidVault with. It keeps what SHOULD stand
 * at each PLACE and derives PARITY and what a weak DISK shows, where RaidVault keeps the DISKS themselves.
 */
final class PlainVault {
    private record Entry(int kind, int file, int n, long v) {
    }

    private record Writing(int place, byte[] octets) {
    }

    private byte[][] places;
    private int weak;
    private boolean failed;
    private int rebuilt;
    private boolean broken;
    private int writings;
    private TreeMap<Integer, byte[]> files;
    /** The PIECES that were written, of each FILE that was changed. */
    private TreeMap<Integer, TreeSet<Integer>> changed;
    private TreeMap<Integer, TreeMap<Integer, Integer>> pieceAt;
    private List<Entry> log;

    PlainVault() {
        begin();
    }

    void begin() {
        places = new byte[600][32];
        weak = -1;
        failed = false;
        rebuilt = 150;
        broken = false;
        writings = 0;
        log = new ArrayList<>();
        readAll();
    }

    int write(int file, int at, long v) {
        arguments(file >= 0 && file < 32 && at >= 0 && at <= 440);
        arguments(at <= (files.containsKey(file) ? files.get(file).length : 0));
        entry(new Entry(0, file, at, v));
        return files.get(file).length;
    }

    void cut(int file, int n) {
        arguments(files.containsKey(file) && n >= 0 && n <= files.get(file).length);
        entry(new Entry(1, file, n, 0));
    }

    void remove(int file) {
        arguments(files.containsKey(file));
        entry(new Entry(2, file, 0, 0));
    }

    int size(int k, int file) {
        arguments(file >= 0 && file < 32 && (k == -1 || hasSnapshot(k)));
        notBroken();
        byte[] octets = content(k, file);
        return octets == null ? -1 : octets.length;
    }

    int octet(int k, int file, int at) {
        int size = size(k, file);
        if (at < 0 || at >= size) {
            throw new IndexOutOfBoundsException();
        }
        return content(k, file)[at] & 255;
    }

    int point() {
        notBroken();
        List<Writing> plan = plan();
        if (plan == null) {
            throw new UnsupportedOperationException();
        }
        for (Writing w : plan) {
            put(w);
        }
        log.clear();
        readAll();
        return count(0);
    }

    void snapshot(int k) {
        arguments(k >= 0 && k < 5);
        point();
        byte[] info = places[0].clone();
        System.arraycopy(info, 4, info, 8 + 4 * k, 4);
        put(new Writing(0, info));
    }

    void drop(int k) {
        arguments(hasSnapshot(k));
        notBroken();
        byte[] info = places[0].clone();
        for (int i = 0; i < 4; i++) {
            info[8 + 4 * k + i] = 0;
        }
        put(new Writing(0, info));
    }

    boolean crash(int n, boolean keep) {
        arguments(n >= 0);
        notBroken();
        List<Writing> plan = plan();
        boolean made = plan != null && n >= plan.size();
        for (int i = 0; plan != null && i < Math.min(n, plan.size()); i++) {
            put(plan.get(i));
        }
        if (made || !keep) {
            log.clear();
        }
        readAll();
        for (Entry e : log) {
            apply(e);
        }
        return made;
    }

    void fail(int disk) {
        arguments(disk >= 0 && disk < 5);
        notBroken();
        if (weak >= 0 && weak != disk) {
            broken = true;
            return;
        }
        weak = disk;
        failed = true;
        rebuilt = 0;
    }

    void replace() {
        notBroken();
        if (weak < 0 || !failed) {
            throw new IllegalStateException();
        }
        failed = false;
    }

    int rebuild(int n) {
        arguments(n >= 0);
        notBroken();
        if (weak < 0 || failed) {
            throw new IllegalStateException();
        }
        rebuilt = (int) Math.min(150L, (long) rebuilt + n);
        if (rebuilt == 150) {
            weak = -1;
        }
        return rebuilt;
    }

    long block(int disk, int block, int word) {
        arguments(disk >= 0 && disk < 5 && block >= 0 && block < 150 && word >= 0 && word < 4);
        if (disk == weak && failed) {
            throw new IllegalStateException();
        }
        if (disk == weak && block >= rebuilt) {
            return 0;
        }
        long sum = 0;
        for (int i = 8 * word; i < 8 * word + 8; i++) {
            int octet = 0;
            for (int d = 0; d < 4; d++) {
                octet ^= disk == 4 || disk == d ? places[4 * block + d][i] & 255 : 0;
            }
            sum = sum << 8 | octet;
        }
        return sum;
    }

    int count(int what) {
        arguments(what >= 0 && what <= 7);
        return switch (what) {
            case 0 -> number(0, 0) * 65536 + number(0, 1);
            case 1 -> free().size();
            case 2 -> log.size();
            case 3 -> writings;
            case 4 -> weak;
            case 5 -> weak < 0 ? 150 : rebuilt;
            case 6 -> broken ? 1 : 0;
            default -> files.size();
        };
    }

    private static void arguments(boolean right) {
        if (!right) {
            throw new IllegalArgumentException();
        }
    }

    private void notBroken() {
        if (broken) {
            throw new IllegalStateException();
        }
    }

    private void entry(Entry e) {
        notBroken();
        if (log.size() == 40) {
            point();
        }
        log.add(e);
        apply(e);
    }

    private void apply(Entry e) {
        TreeSet<Integer> written = changed.computeIfAbsent(e.file, f -> new TreeSet<>());
        byte[] old = files.getOrDefault(e.file, new byte[0]);
        if (e.kind == 0) {
            byte[] octets = java.util.Arrays.copyOf(old, Math.max(old.length, e.n + 8));
            for (int i = 0; i < 8; i++) {
                octets[e.n + i] = (byte) (e.v >> (56 - 8 * i));
                written.add((e.n + i) / 32);
            }
            files.put(e.file, octets);
        } else if (e.kind == 1) {
            files.put(e.file, java.util.Arrays.copyOf(old, e.n));
            written.removeIf(piece -> piece * 32 >= e.n);
        } else {
            files.remove(e.file);
            written.clear();
        }
    }

    /** All WRITINGS of the POINT that would be made now; null if it would be FULL. */
    private List<Writing> plan() {
        List<Writing> plan = new ArrayList<>();
        TreeSet<Integer> free = free();
        byte[][] halves = new byte[2][32];
        int[] halfAt = {number(0, 2), number(0, 3)};
        for (int h = 0; h < 2; h++) {
            halves[h] = halfAt[h] == 0 ? new byte[32] : places[halfAt[h]].clone();
        }
        boolean[] halfChanged = new boolean[2];
        for (int file : changed.keySet()) {
            halfChanged[file / 16] = true;
            byte[] octets = files.get(file);
            TreeMap<Integer, Integer> at = new TreeMap<>(pieceAt.getOrDefault(file, new TreeMap<>()));
            for (int piece : changed.get(file)) {
                if (free.isEmpty()) {
                    return null;
                }
                byte[] one = new byte[32];
                System.arraycopy(octets, 32 * piece, one, 0, Math.min(32, octets.length - 32 * piece));
                at.put(piece, free.first());
                plan.add(new Writing(free.pollFirst(), one));
            }
            int inode = 0;
            if (octets != null) {
                if (free.isEmpty()) {
                    return null;
                }
                byte[] one = new byte[32];
                setNumber(one, 0, octets.length);
                for (int piece = 0; 32 * piece < octets.length; piece++) {
                    setNumber(one, 1 + piece, at.get(piece));
                }
                inode = free.first();
                plan.add(new Writing(free.pollFirst(), one));
            }
            setNumber(halves[file / 16], file % 16, inode);
        }
        byte[] info = places[0].clone();
        for (int h = 0; h < 2; h++) {
            if (halfChanged[h]) {
                if (free.isEmpty()) {
                    return null;
                }
                setNumber(info, 2 + h, free.first());
                plan.add(new Writing(free.pollFirst(), halves[h]));
            }
        }
        int next = count(0) + 1;
        setNumber(info, 0, next / 65536);
        setNumber(info, 1, next % 65536);
        plan.add(new Writing(0, info));
        return plan;
    }

    private void put(Writing w) {
        places[w.place] = w.octets.clone();
        writings++;
    }

    private void readAll() {
        files = new TreeMap<>();
        changed = new TreeMap<>();
        pieceAt = new TreeMap<>();
        for (int file = 0; file < 32; file++) {
            int inode = inode(-1, file);
            if (inode == 0) {
                continue;
            }
            files.put(file, stored(inode));
            pieceAt.put(file, new TreeMap<>());
            for (int piece = 0; piece < 14; piece++) {
                if (number(inode, 1 + piece) != 0) {
                    pieceAt.get(file).put(piece, number(inode, 1 + piece));
                }
            }
        }
    }

    private byte[] content(int k, int file) {
        if (k == -1) {
            return files.get(file);
        }
        int inode = inode(k, file);
        return inode == 0 ? null : stored(inode);
    }

    private byte[] stored(int inode) {
        byte[] octets = new byte[number(inode, 0)];
        for (int i = 0; i < octets.length; i++) {
            octets[i] = places[number(inode, 1 + i / 32)][i % 32];
        }
        return octets;
    }

    private int inode(int k, int file) {
        int half = number(0, 4 + 2 * k + file / 16);
        return half == 0 ? 0 : number(half, file % 16);
    }

    private boolean hasSnapshot(int k) {
        return k >= 0 && k < 5 && (number(0, 4 + 2 * k) != 0 || number(0, 5 + 2 * k) != 0);
    }

    private TreeSet<Integer> free() {
        TreeSet<Integer> free = new TreeSet<>();
        for (int p = 1; p < 600; p++) {
            free.add(p);
        }
        for (int h = 2; h < 14; h++) {
            int half = number(0, h);
            free.remove(half);
            for (int f = 0; half != 0 && f < 16; f++) {
                int inode = number(half, f);
                free.remove(inode);
                for (int p = 1; inode != 0 && p < 15; p++) {
                    free.remove(number(inode, p));
                }
            }
        }
        return free;
    }

    private int number(int place, int i) {
        return (places[place][2 * i] & 255) * 256 + (places[place][2 * i + 1] & 255);
    }

    private static void setNumber(byte[] octets, int i, int number) {
        octets[2 * i] = (byte) (number / 256);
        octets[2 * i + 1] = (byte) number;
    }
}
