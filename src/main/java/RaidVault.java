import java.util.Arrays;

/**
 * A file server on five disks that never writes over what is still needed: changes wait in memory
 * and in a LOG until a POINT brings them to fresh PLACES and makes them valid by writing INFO last.
 */
public final class RaidVault {
    private static final int DISKS = 5;
    private static final int DATA_DISKS = 4;
    private static final int PARITY_DISK = 4;
    private static final int STRIPES = 150;
    private static final int PLACES = 600;
    private static final int INFO_PLACE = 0;

    private static final int BLOCK_WORDS = 4;
    private static final int WORD_NUMBERS = 4;
    private static final int BLOCK_NUMBERS = BLOCK_WORDS * WORD_NUMBERS;
    private static final int DISK_WORDS = STRIPES * BLOCK_WORDS;

    private static final int FILES = 32;
    private static final int PIECES = 14;
    private static final int PIECE_OCTETS = 32;
    private static final int WORD_OCTETS = 8;
    private static final int FILE_OCTETS = PIECES * PIECE_OCTETS;
    private static final int FILE_WORDS = PIECES * BLOCK_WORDS;
    private static final int HALVES = 2;
    private static final int HALF_FILES = 16;

    private static final int NOW = -1;
    private static final int NONE = -1;
    private static final int SNAPSHOTS = 5;
    private static final int MAPS = 1 + SNAPSHOTS;

    private static final int LOG_ENTRIES = 40;
    private static final int WRITE = 0;
    private static final int CUT = 1;
    private static final int REMOVE = 2;

    private static final int ALL_WRITINGS = 1000000;

    private final Disks disks = new Disks();
    private final Info info = new Info();
    private final Space space = new Space();
    private final Memory memory = new Memory();
    private final Log pending = new Log();
    private final Block block = new Block();
    private int writingsLeft;

    public RaidVault() {
        begin();
    }

    public void begin() {
        disks.wipe();
        info.wipe();
        memory.wipe();
        pending.wipe();
        space.survey(info, disks);
    }

    public int write(int file, int at, long v)
            throws IllegalArgumentException, IllegalStateException, UnsupportedOperationException {
        if (!isFile(file) || at < 0 || at > FILE_OCTETS - WORD_OCTETS
                || at > Math.max(memory.octetsOf(file), 0)) {
            throw new IllegalArgumentException("no such FILE, or nothing can be written from there on");
        }
        refuseIfBroken();
        if (pending.isFull()) {
            makePoint();
        }
        pending.enter(WRITE, file, at, v);
        memory.overwrite(file, at, v);
        return memory.octetsOf(file);
    }

    public void cut(int file, int n)
            throws IllegalArgumentException, IllegalStateException, UnsupportedOperationException {
        if (!isFile(file) || n < 0 || n > memory.octetsOf(file)) {
            throw new IllegalArgumentException("no such FILE, or it has not so many octets");
        }
        refuseIfBroken();
        if (pending.isFull()) {
            makePoint();
        }
        pending.enter(CUT, file, n, 0L);
        memory.shorten(file, n);
    }

    public void remove(int file)
            throws IllegalArgumentException, IllegalStateException, UnsupportedOperationException {
        if (!isFile(file) || memory.octetsOf(file) == NONE) {
            throw new IllegalArgumentException("no such FILE");
        }
        refuseIfBroken();
        if (pending.isFull()) {
            makePoint();
        }
        pending.enter(REMOVE, file, 0, 0L);
        memory.erase(file);
    }

    public int size(int k, int file) throws IllegalArgumentException, IllegalStateException {
        refuseIfNotReadable(k, file);
        return octetsIn(k, file);
    }

    public int octet(int k, int file, int at)
            throws IllegalArgumentException, IllegalStateException, IndexOutOfBoundsException {
        refuseIfNotReadable(k, file);
        if (at < 0 || at >= octetsIn(k, file)) {
            throw new IndexOutOfBoundsException("the FILE has no such octet");
        }
        if (k == NOW) {
            return memory.octetAt(file, at);
        }
        int place = disks.number(inodeIn(k, file), 1 + at / PIECE_OCTETS);
        return octetOf(disks.word(place, at % PIECE_OCTETS / WORD_OCTETS), at % WORD_OCTETS);
    }

    public int point() throws IllegalStateException, UnsupportedOperationException {
        refuseIfBroken();
        makePoint();
        return info.pointNumber();
    }

    public void snapshot(int k)
            throws IllegalArgumentException, IllegalStateException, UnsupportedOperationException {
        if (k < 0 || k >= SNAPSHOTS) {
            throw new IllegalArgumentException("no SNAPSHOT has that number");
        }
        refuseIfBroken();
        makePoint();
        info.keepMapAs(k);
        rewriteInfo();
    }

    public void drop(int k) throws IllegalArgumentException, IllegalStateException {
        if (!info.hasSnapshot(k)) {
            throw new IllegalArgumentException("no such SNAPSHOT");
        }
        refuseIfBroken();
        info.forget(k);
        rewriteInfo();
    }

    public boolean crash(int n, boolean log) throws IllegalArgumentException, IllegalStateException {
        if (n < 0) {
            throw new IllegalArgumentException("less than no WRITINGS");
        }
        refuseIfBroken();
        boolean made = false;
        if (hasPlacesForPoint()) {
            made = n > memory.placesNeeded();
            writePoint(n);
        }
        if (made || !log) {
            pending.wipe();
        }
        readBack();
        return made;
    }

    public void fail(int disk) throws IllegalArgumentException, IllegalStateException {
        if (disk < 0 || disk >= DISKS) {
            throw new IllegalArgumentException("no such DISK");
        }
        refuseIfBroken();
        disks.lose(disk);
    }

    public void replace() throws IllegalStateException {
        refuseIfBroken();
        if (!disks.hasFailed(disks.unsound())) {
            throw new IllegalStateException("no DISK has FAILED");
        }
        disks.renew();
    }

    public int rebuild(int n) throws IllegalArgumentException, IllegalStateException {
        if (n < 0) {
            throw new IllegalArgumentException("less than no STRIPES");
        }
        refuseIfBroken();
        if (disks.unsound() == NONE || disks.hasFailed(disks.unsound())) {
            throw new IllegalStateException("no DISK is being REBUILT");
        }
        disks.restore(n);
        return disks.rebuiltUpTo();
    }

    public long block(int disk, int block, int word) throws IllegalArgumentException, IllegalStateException {
        if (disk < 0 || disk >= DISKS || block < 0 || block >= STRIPES || word < 0 || word >= BLOCK_WORDS) {
            throw new IllegalArgumentException("no such DISK, BLOCK or word");
        }
        if (disks.hasFailed(disk)) {
            throw new IllegalStateException("the DISK FAILED");
        }
        return disks.standing(disk, block, word);
    }

    public int count(int what) throws IllegalArgumentException {
        switch (what) {
            case 0: return info.pointNumber();
            case 1: return space.freePlaces();
            case 2: return pending.length();
            case 3: return disks.writings();
            case 4: return disks.unsound();
            case 5: return disks.rebuiltUpTo();
            case 6: return disks.isBroken() ? 1 : 0;
            case 7: return memory.filesThere();
            default: throw new IllegalArgumentException("nothing with that number is counted");
        }
    }

    private static boolean isFile(int file) {
        return file >= 0 && file < FILES;
    }

    private static int octetOf(long word, int i) {
        return (int) (word >>> (56 - 8 * i)) & 255;
    }

    /** The higher octet comes first, and so does the first number of a word. */
    private static int shiftOfNumber(int i) {
        return 48 - 16 * (i % WORD_NUMBERS);
    }

    /** Also right for NONE, which has no PIECES. */
    private static int piecesOf(int octets) {
        return (octets + PIECE_OCTETS - 1) / PIECE_OCTETS;
    }

    private void refuseIfBroken() {
        if (disks.isBroken()) {
            throw new IllegalStateException("all is BROKEN");
        }
    }

    private void refuseIfNotReadable(int k, int file) {
        if (!isFile(file) || (k != NOW && !info.hasSnapshot(k))) {
            throw new IllegalArgumentException("no such FILE or SNAPSHOT");
        }
        refuseIfBroken();
    }

    private int octetsIn(int k, int file) {
        if (k == NOW) {
            return memory.octetsOf(file);
        }
        int inode = inodeIn(k, file);
        return inode == 0 ? NONE : disks.number(inode, 0);
    }

    /** The PLACE of an INODE as the disks have it: 0 if the FILE is none. */
    private int inodeIn(int k, int file) {
        int half = info.halfOf(k, file / HALF_FILES);
        return half == 0 ? 0 : disks.number(half, file % HALF_FILES);
    }

    private boolean hasPlacesForPoint() {
        return memory.placesNeeded() <= space.freePlaces();
    }

    private void makePoint() {
        if (!hasPlacesForPoint()) {
            throw new UnsupportedOperationException("FULL");
        }
        writePoint(ALL_WRITINGS);
        memory.settle();
        pending.wipe();
        space.survey(info, disks);
    }

    /** Only a crash lets fewer WRITINGS through than there are; it reads all back afterwards. */
    private void writePoint(int mostWritings) {
        writingsLeft = mostWritings;
        space.startTaking();
        for (int file = 0; file < FILES; file++) {
            if (memory.isChanged(file)) {
                putFile(file);
            }
        }
        for (int half = 0; half < HALVES; half++) {
            if (memory.isHalfChanged(half)) {
                int place = space.takeFresh();
                memory.halfInto(half, block);
                putAt(place);
                info.moveHalf(half, place);
            }
        }
        info.advance();
        info.into(block);
        putAt(INFO_PLACE);
    }

    private void putFile(int file) {
        for (int piece = 0; piece < PIECES; piece++) {
            if (memory.isWritten(file, piece)) {
                int place = space.takeFresh();
                memory.pieceInto(file, piece, block);
                putAt(place);
                memory.movePiece(file, piece, place);
            }
        }
        int inode = 0;
        if (memory.octetsOf(file) != NONE) {
            inode = space.takeFresh();
            memory.inodeInto(file, block);
            putAt(inode);
        }
        memory.moveInode(file, inode);
    }

    private void putAt(int place) {
        if (writingsLeft > 0) {
            writingsLeft--;
            disks.store(place, block);
        }
    }

    private void rewriteInfo() {
        info.into(block);
        disks.store(INFO_PLACE, block);
        space.survey(info, disks);
    }

    private void readBack() {
        info.readFrom(disks);
        memory.wipe();
        for (int file = 0; file < FILES; file++) {
            memory.load(file, inodeIn(NOW, file), disks);
        }
        space.survey(info, disks);
        pending.redoIn(memory);
    }

    /** What is to be written to one PLACE: words of eight octets, or numbers of two. */
    static final class Block {
        private final long[] words = new long[BLOCK_WORDS];

        void wipe() {
            Arrays.fill(words, 0L);
        }

        long word(int i) {
            return i >= 0 && i < BLOCK_WORDS ? words[i] : 0L;
        }

        void setWord(int i, long word) {
            if (i >= 0 && i < BLOCK_WORDS) {
                words[i] = word;
            }
        }

        /** Takes for granted that the number was 0 before. */
        void setNumber(int i, int number) {
            if (i >= 0 && i < BLOCK_NUMBERS) {
                words[i / WORD_NUMBERS] |= (number & 0xFFFFL) << shiftOfNumber(i);
            }
        }
    }

    /** The five disks: at most one is not SOUND, and what it lacks is reckoned out of the others. */
    static final class Disks {
        private final long[] words = new long[DISKS * DISK_WORDS];
        private final int[] usableStripes = new int[DISKS];
        private int unsound = NONE;
        private boolean failed;
        private boolean broken;
        private int writings;

        void wipe() {
            Arrays.fill(words, 0L);
            Arrays.fill(usableStripes, STRIPES);
            unsound = NONE;
            failed = false;
            broken = false;
            writings = 0;
        }

        boolean isBroken() {
            return broken;
        }

        int unsound() {
            return unsound;
        }

        boolean hasFailed(int disk) {
            return failed && disk == unsound;
        }

        int rebuiltUpTo() {
            return unsound >= 0 && unsound < DISKS ? usableStripes[unsound] : STRIPES;
        }

        int writings() {
            return writings;
        }

        long standing(int disk, int stripe, int word) {
            if (disk < 0 || disk >= DISKS || stripe < 0 || stripe >= STRIPES || word < 0 || word >= BLOCK_WORDS) {
                return 0L;
            }
            return words[disk * DISK_WORDS + stripe * BLOCK_WORDS + word];
        }

        long word(int place, int word) {
            if (place < 0 || place >= PLACES || word < 0 || word >= BLOCK_WORDS) {
                return 0L;
            }
            return due(place % DATA_DISKS, place / DATA_DISKS * BLOCK_WORDS + word);
        }

        int number(int place, int i) {
            if (place < 0 || place >= PLACES || i < 0 || i >= BLOCK_NUMBERS) {
                return 0;
            }
            long word = due(place % DATA_DISKS, place / DATA_DISKS * BLOCK_WORDS + i / WORD_NUMBERS);
            return (int) (word >>> shiftOfNumber(i)) & 0xFFFF;
        }

        void store(int place, Block block) {
            if (place < 0 || place >= PLACES) {
                return;
            }
            int disk = place % DATA_DISKS;
            int stripe = place / DATA_DISKS;
            for (int i = 0; i < BLOCK_WORDS; i++) {
                int offset = stripe * BLOCK_WORDS + i;
                // Both are looked at before either is written: one may be reckoned out of the other.
                long parity = due(PARITY_DISK, offset) ^ due(disk, offset) ^ block.word(i);
                if (stripe < usableStripes[disk]) {
                    words[disk * DISK_WORDS + offset] = block.word(i);
                }
                if (stripe < usableStripes[PARITY_DISK]) {
                    words[PARITY_DISK * DISK_WORDS + offset] = parity;
                }
            }
            // WRITINGS are those of PLACES: neither PARITY nor what a rebuild writes counts.
            writings++;
        }

        void lose(int disk) {
            if (unsound != NONE && unsound != disk) {
                broken = true;
            } else if (disk >= 0 && disk < DISKS) {
                unsound = disk;
                failed = true;
                usableStripes[disk] = 0;
            }
        }

        void renew() {
            if (unsound < 0 || unsound >= DISKS) {
                return;
            }
            for (int offset = 0; offset < DISK_WORDS; offset++) {
                words[unsound * DISK_WORDS + offset] = 0L;
            }
            failed = false;
        }

        void restore(int stripes) {
            if (unsound < 0 || unsound >= DISKS) {
                return;
            }
            int start = usableStripes[unsound];
            int end = start + Math.min(stripes, STRIPES - start);
            for (int offset = start * BLOCK_WORDS; offset < end * BLOCK_WORDS; offset++) {
                words[unsound * DISK_WORDS + offset] = due(unsound, offset);
            }
            usableStripes[unsound] = end;
            if (end == STRIPES) {
                unsound = NONE;
            }
        }

        /** What should stand there, whether it can be used or not. */
        private long due(int disk, int offset) {
            if (offset / BLOCK_WORDS < usableStripes[disk]) {
                return words[disk * DISK_WORDS + offset];
            }
            long rest = 0L;
            for (int other = 0; other < DISKS; other++) {
                if (other != disk) {
                    rest ^= words[other * DISK_WORDS + offset];
                }
            }
            return rest;
        }
    }

    /** INFO as it stands at PLACE 0, or is to stand there next. */
    static final class Info {
        private static final int FIRST_HALF = 2;

        private int number;
        private final int[] halves = new int[MAPS * HALVES];

        void wipe() {
            number = 0;
            Arrays.fill(halves, 0);
        }

        int pointNumber() {
            return number;
        }

        void advance() {
            number++;
        }

        /** The PLACE of a half of the MAP (k NOW) or of a SNAPSHOT's. */
        int halfOf(int k, int half) {
            int i = (k + 1) * HALVES + half;
            return i >= 0 && i < halves.length ? halves[i] : 0;
        }

        void moveHalf(int half, int place) {
            if (half >= 0 && half < HALVES) {
                halves[half] = place;
            }
        }

        boolean hasSnapshot(int k) {
            return k >= 0 && k < SNAPSHOTS && (halfOf(k, 0) != 0 || halfOf(k, 1) != 0);
        }

        void keepMapAs(int k) {
            setSnapshot(k, halves[0], halves[1]);
        }

        void forget(int k) {
            setSnapshot(k, 0, 0);
        }

        void into(Block block) {
            block.wipe();
            block.setNumber(0, number >>> 16);
            block.setNumber(1, number);
            for (int i = 0; i < halves.length; i++) {
                block.setNumber(FIRST_HALF + i, halves[i]);
            }
        }

        void readFrom(Disks disks) {
            number = disks.number(INFO_PLACE, 0) << 16 | disks.number(INFO_PLACE, 1);
            for (int i = 0; i < halves.length; i++) {
                halves[i] = disks.number(INFO_PLACE, FIRST_HALF + i);
            }
        }

        private void setSnapshot(int k, int first, int second) {
            if (k >= 0 && k < SNAPSHOTS) {
                halves[(k + 1) * HALVES] = first;
                halves[(k + 1) * HALVES + 1] = second;
            }
        }
    }

    /** Which PLACES are FREE by the INFO that stands, and how far a POINT has taken of them. */
    static final class Space {
        private final int[] used = new int[PLACES];
        private int free;
        private int lastTaken;

        int freePlaces() {
            return free;
        }

        void startTaking() {
            lastTaken = 0;
        }

        /** Going up only is enough, for nothing becomes FREE while a POINT is written. */
        int takeFresh() {
            for (int place = lastTaken + 1; place < PLACES; place++) {
                if (used[place] == 0) {
                    lastTaken = place;
                    return place;
                }
            }
            return NONE;
        }

        void survey(Info info, Disks disks) {
            Arrays.fill(used, 0);
            used[INFO_PLACE] = 1;
            free = PLACES - 1;
            for (int k = NOW; k < SNAPSHOTS; k++) {
                for (int half = 0; half < HALVES; half++) {
                    useHalf(info.halfOf(k, half), disks);
                }
            }
        }

        private void useHalf(int half, Disks disks) {
            if (!use(half)) {
                return;
            }
            for (int i = 0; i < HALF_FILES; i++) {
                useInode(disks.number(half, i), disks);
            }
        }

        private void useInode(int inode, Disks disks) {
            if (!use(inode)) {
                return;
            }
            int pieces = Math.min(piecesOf(disks.number(inode, 0)), PIECES);
            for (int piece = 0; piece < pieces; piece++) {
                use(disks.number(inode, 1 + piece));
            }
        }

        /** False if it is in use already: then all that it leads to is, too, as a PLACE in use never changes. */
        private boolean use(int place) {
            if (place < 0 || place >= PLACES || used[place] != 0) {
                return false;
            }
            used[place] = 1;
            free--;
            return true;
        }
    }

    /** The FILES as they are now, and what of them the latest POINT does not have. */
    static final class Memory {
        private final int[] sizes = new int[FILES];
        private final long[] words = new long[FILES * FILE_WORDS];
        private final int[] inodes = new int[FILES];
        private final int[] places = new int[FILES * PIECES];
        private final int[] writtenPieces = new int[FILES];
        private int changedFiles;

        void wipe() {
            Arrays.fill(sizes, NONE);
            Arrays.fill(inodes, 0);
            settle();
        }

        void settle() {
            Arrays.fill(writtenPieces, 0);
            changedFiles = 0;
        }

        int octetsOf(int file) {
            return isFile(file) ? sizes[file] : NONE;
        }

        int octetAt(int file, int at) {
            if (at < 0 || at >= octetsOf(file)) {
                return 0;
            }
            return octetOf(words[file * FILE_WORDS + at / WORD_OCTETS], at % WORD_OCTETS);
        }

        int filesThere() {
            int there = 0;
            for (int file = 0; file < FILES; file++) {
                if (sizes[file] != NONE) {
                    there++;
                }
            }
            return there;
        }

        void overwrite(int file, int at, long v) {
            if (!isFile(file) || at < 0 || at > FILE_OCTETS - WORD_OCTETS) {
                return;
            }
            sizes[file] = Math.max(sizes[file], at + WORD_OCTETS);
            int first = file * FILE_WORDS + at / WORD_OCTETS;
            int shift = 8 * (at % WORD_OCTETS);
            long mask = -1L >>> shift;
            words[first] = (words[first] & ~mask) | (v >>> shift);
            if (shift != 0) {
                words[first + 1] = (words[first + 1] & mask) | (v << (64 - shift));
            }
            writtenPieces[file] |= 1 << (at / PIECE_OCTETS);
            writtenPieces[file] |= 1 << ((at + WORD_OCTETS - 1) / PIECE_OCTETS);
            changedFiles |= 1 << file;
        }

        void shorten(int file, int n) {
            if (n < 0 || n > octetsOf(file)) {
                return;
            }
            sizes[file] = n;
            writtenPieces[file] &= (1 << piecesOf(n)) - 1;
            changedFiles |= 1 << file;
        }

        void erase(int file) {
            if (!isFile(file)) {
                return;
            }
            sizes[file] = NONE;
            writtenPieces[file] = 0;
            changedFiles |= 1 << file;
        }

        boolean isChanged(int file) {
            return (changedFiles >>> file & 1) != 0;
        }

        boolean isHalfChanged(int half) {
            return (changedFiles >>> half * HALF_FILES & 0xFFFF) != 0;
        }

        boolean isWritten(int file, int piece) {
            return isFile(file) && (writtenPieces[file] >>> piece & 1) != 0;
        }

        /** How many fresh PLACES a POINT takes now. */
        int placesNeeded() {
            int needed = 0;
            for (int file = 0; file < FILES; file++) {
                needed += Integer.bitCount(writtenPieces[file]);
                if (isChanged(file) && sizes[file] != NONE) {
                    needed++;
                }
            }
            for (int half = 0; half < HALVES; half++) {
                if (isHalfChanged(half)) {
                    needed++;
                }
            }
            return needed;
        }

        void movePiece(int file, int piece, int place) {
            if (isFile(file) && piece >= 0 && piece < PIECES) {
                places[file * PIECES + piece] = place;
            }
        }

        void moveInode(int file, int place) {
            if (isFile(file)) {
                inodes[file] = place;
            }
        }

        /** A cut leaves the old octets behind the FILE's end, so they are masked here. */
        void pieceInto(int file, int piece, Block block) {
            block.wipe();
            if (!isFile(file) || piece < 0 || piece >= PIECES) {
                return;
            }
            int first = piece * BLOCK_WORDS;
            for (int i = 0; i < BLOCK_WORDS; i++) {
                int octets = sizes[file] - (first + i) * WORD_OCTETS;
                if (octets > 0) {
                    long mask = octets >= WORD_OCTETS ? -1L : -1L << (64 - 8 * octets);
                    block.setWord(i, words[file * FILE_WORDS + first + i] & mask);
                }
            }
        }

        void inodeInto(int file, Block block) {
            block.wipe();
            if (!isFile(file)) {
                return;
            }
            block.setNumber(0, sizes[file]);
            for (int piece = 0; piece < PIECES && piece < piecesOf(sizes[file]); piece++) {
                block.setNumber(1 + piece, places[file * PIECES + piece]);
            }
        }

        void halfInto(int half, Block block) {
            block.wipe();
            if (half < 0 || half >= HALVES) {
                return;
            }
            for (int i = 0; i < HALF_FILES; i++) {
                block.setNumber(i, inodes[half * HALF_FILES + i]);
            }
        }

        void load(int file, int inode, Disks disks) {
            if (!isFile(file)) {
                return;
            }
            inodes[file] = inode;
            sizes[file] = inode == 0 ? NONE : Math.min(disks.number(inode, 0), FILE_OCTETS);
            for (int piece = 0; piece < piecesOf(sizes[file]); piece++) {
                int place = disks.number(inode, 1 + piece);
                places[file * PIECES + piece] = place;
                for (int i = 0; i < BLOCK_WORDS; i++) {
                    words[file * FILE_WORDS + piece * BLOCK_WORDS + i] = disks.word(place, i);
                }
            }
        }
    }

    /** The changes since the latest POINT, to be done again if memory is lost. */
    static final class Log {
        private final int[] kinds = new int[LOG_ENTRIES];
        private final int[] files = new int[LOG_ENTRIES];
        private final int[] octets = new int[LOG_ENTRIES];
        private final long[] values = new long[LOG_ENTRIES];
        private int length;

        void wipe() {
            length = 0;
        }

        int length() {
            return length;
        }

        boolean isFull() {
            return length >= LOG_ENTRIES;
        }

        void enter(int kind, int file, int octet, long value) {
            if (isFull()) {
                return;
            }
            kinds[length] = kind;
            files[length] = file;
            octets[length] = octet;
            values[length] = value;
            length++;
        }

        void redoIn(Memory memory) {
            for (int i = 0; i < length && i < LOG_ENTRIES; i++) {
                if (kinds[i] == WRITE) {
                    memory.overwrite(files[i], octets[i], values[i]);
                } else if (kinds[i] == CUT) {
                    memory.shorten(files[i], octets[i]);
                } else {
                    memory.erase(files[i]);
                }
            }
        }
    }
}
