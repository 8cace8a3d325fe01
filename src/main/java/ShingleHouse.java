import java.util.Arrays;

/**
 * A file system on a disk of shingled tracks. Each class inside stands on the ones ahead of it: the Disk does and
 * counts WRITES, the Volume makes SECTORS of them, the Store keeps what is DIRTY and COMMITS it, the others read and
 * change SECTORS through the Store alone, so that a CUT can forget all of it at once.
 */
public final class ShingleHouse {
    public static final int NONE = -1, OFF = -99;

    private static final int NO_DIRECTORY = -10;
    private static final int NO_NAME = -11;
    private static final int NOT_THERE = -12;
    private static final int THERE_ALREADY = -13;
    private static final int NO_FILE = -14;
    private static final int NOT_RIGHT = -15;
    private static final int NOTHING_FREE = -16;
    private static final int NOT_EMPTY = -17;
    private static final int IN_ITSELF = -18;
    private static final int TOO_MANY_POINTERS = -19;
    private static final int MAY_NOT = -20;

    /** What a refusal is where there is none: no refusal of the document is 0. */
    private static final int FINE = 0;

    /** A SECTOR's 64 bytes are held as words of eight, the lowest byte first: it keeps rows small and copies short. */
    private static final int WORDS = 8;
    private static final int BYTES = 64;

    private static final int JOURNAL_SIZE = 80;
    private static final int NODE_COUNT = 64;
    private static final int MOST_DIRTY = 40;
    private static final int ROOT = 0;

    private static final int FREE_NODE = 0;
    private static final int FILE = 1;
    private static final int DIRECTORY = 2;
    private static final int LAID = 3;
    private static final int POINTER = 4;

    /** The rights of others; those of an OWNER are three bits higher. */
    private static final int READ = 4;
    private static final int WRITE = 2;
    private static final int GO = 1;

    private static final int FILE_MODE = 52;
    private static final int DIRECTORY_MODE = 61;
    private static final int ROOT_MODE = 63;

    private static final int MOST_USERS = 16;
    private static final int MOST_LINKS = 255;
    private static final int MOST_TEXT = 40;
    private static final int SLASH = 47;

    private final Disk disk;
    private final Volume volume;
    private final Store store;
    private final Space space;
    private final Nodes nodes;
    private final Folders folders;
    private final Bodies bodies;
    private final Tape tape;
    private final Walker walker;
    private final Checker checker;
    private int who;

    public ShingleHouse(int bands, int tracks, int shingles, int cache) {
        Disk newDisk = new Disk(bands, tracks, shingles, cache);
        Volume newVolume = new Volume(newDisk);
        Store newStore = new Store(newDisk, newVolume);
        Space newSpace = new Space(newDisk, newStore);
        Nodes newNodes = new Nodes(newStore, newSpace.firstNode);
        Folders newFolders = new Folders(newStore, newSpace, newNodes);
        Tape newTape = new Tape(Tape.MOST);
        newDisk.format(newSpace.firstBlock, newSpace.firstNode);
        disk = newDisk;
        volume = newVolume;
        store = newStore;
        space = newSpace;
        nodes = newNodes;
        folders = newFolders;
        tape = newTape;
        bodies = new Bodies(newStore, newSpace, newNodes, newDisk.bandSize);
        walker = new Walker(newStore, newNodes, newFolders, newTape);
        checker = new Checker(newDisk, newStore, newSpace, newNodes);
        who = 0;
    }

    public boolean feed(int a, int b, int c, int d, int e) {
        if (tape.length + 20 > Tape.MOST) {
            return false;
        }
        tape.append(a);
        tape.append(b);
        tape.append(c);
        tape.append(d);
        tape.append(e);
        return true;
    }

    public boolean end(int n) {
        if (n < 0 || n > tape.length) {
            return false;
        }
        tape.length = n;
        return true;
    }

    public int as(int user) {
        if (!disk.on) {
            return OFF;
        }
        if (user < 0 || user >= MOST_USERS) {
            return NOT_RIGHT;
        }
        int before = who;
        who = user;
        return before;
    }

    public int make(int dir, long name) {
        return store.commitOver(MOST_DIRTY) ? enter(dir, name, FILE, FILE_MODE) : OFF;
    }

    public int dir(int dir, long name) {
        if (!store.commitOver(MOST_DIRTY)) {
            return OFF;
        }
        int node = enter(dir, name, DIRECTORY, DIRECTORY_MODE);
        if (node >= 0) {
            nodes.setHolder(node, dir);
        }
        return node;
    }

    public int lay(int dir, long name) {
        int answer = store.commitOver(MOST_DIRTY) ? enterLaid(dir, name) : OFF;
        tape.length = 0;
        return answer;
    }

    public int point(int dir, long name) {
        int answer = store.commitOver(MOST_DIRTY) ? enter(dir, name, POINTER, 0) : OFF;
        if (answer >= 0) {
            nodes.setText(answer, tape);
        }
        tape.length = 0;
        return answer;
    }

    public int link(int dir, long name, int file) {
        if (!store.commitOver(MOST_DIRTY)) {
            return OFF;
        }
        int no = refusalToGoBy(dir, name);
        if (no != FINE) {
            return no;
        }
        if (!nodes.hasLinks(file)) {
            return NO_FILE;
        }
        if (folders.seek(dir, name) != NONE) {
            return THERE_ALREADY;
        }
        int now = nodes.linksOf(file) + 1;
        if (now > MOST_LINKS) {
            return NOT_RIGHT;
        }
        if (!folders.hasRoom(dir, 0)) {
            return NOTHING_FREE;
        }
        nodes.setLinks(file, now);
        folders.add(dir, name, file);
        return now;
    }

    public int put(int file, int at) {
        int answer = store.commitOver(MOST_DIRTY) ? writeTape(file, at) : OFF;
        tape.length = 0;
        return answer;
    }

    public int cut(int file, int size) {
        if (!store.commitOver(MOST_DIRTY)) {
            return OFF;
        }
        if (nodes.kindOf(file) != FILE) {
            return NO_FILE;
        }
        if (!nodes.may(file, WRITE, who)) {
            return MAY_NOT;
        }
        int before = nodes.lengthOf(file);
        if (size < 0 || size > before) {
            return NOT_RIGHT;
        }
        return size == before ? 0 : bodies.shorten(file, size);
    }

    public int drop(int dir, long name) {
        if (!store.commitOver(MOST_DIRTY)) {
            return OFF;
        }
        int no = refusalToGoBy(dir, name);
        if (no != FINE) {
            return no;
        }
        int slot = folders.seek(dir, name);
        if (slot == NONE) {
            return NOT_THERE;
        }
        int node = folders.nodeAt(dir, slot);
        if (nodes.kindOf(node) == DIRECTORY && folders.nameCount(node) > 0) {
            return NOT_EMPTY;
        }
        folders.takeOut(dir, slot);
        return bodies.dropOne(node);
    }

    public int rename(int dir, long name, int to, long other) {
        if (!store.commitOver(MOST_DIRTY)) {
            return OFF;
        }
        int no = refusalToGoByBoth(dir, name, to, other);
        if (no != FINE) {
            return no;
        }
        int slot = folders.seek(dir, name);
        if (slot == NONE) {
            return NOT_THERE;
        }
        int node = folders.nodeAt(dir, slot);
        if (dir == to && name == other) {
            return node;
        }
        int otherSlot = folders.seek(to, other);
        no = refusalToMove(node, dir, to, otherSlot);
        if (no != FINE) {
            return no;
        }
        if (otherSlot != NONE) {
            int dropped = folders.nodeAt(to, otherSlot);
            folders.takeOut(to, otherSlot);
            bodies.dropOne(dropped);
        }
        folders.takeOut(dir, slot);
        folders.add(to, other, node);
        if (dir != to && nodes.kindOf(node) == DIRECTORY) {
            nodes.setHolder(node, to);
        }
        return node;
    }

    public int find(int dir, long name) {
        if (!disk.on) {
            return OFF;
        }
        if (nodes.kindOf(dir) != DIRECTORY) {
            return NO_DIRECTORY;
        }
        if (!Folders.isName(name)) {
            return NO_NAME;
        }
        if (!nodes.may(dir, GO, who)) {
            return MAY_NOT;
        }
        int slot = folders.seek(dir, name);
        return slot == NONE ? NOT_THERE : folders.nodeAt(dir, slot);
    }

    public int walk(int dir) {
        int answer = OFF;
        if (disk.on) {
            answer = nodes.kindOf(dir) == DIRECTORY ? walker.follow(dir, who) : NO_DIRECTORY;
        }
        tape.length = 0;
        return answer;
    }

    public int entry(int dir, int k) {
        int no = refusalToList(dir);
        if (no != FINE) {
            return no;
        }
        int slot = folders.slotInOrder(dir, k);
        return slot == NONE ? NONE : folders.nodeAt(dir, slot);
    }

    public long name(int dir, int k) {
        int no = refusalToList(dir);
        if (no != FINE) {
            return no;
        }
        int slot = folders.slotInOrder(dir, k);
        return slot == NONE ? NONE : folders.nameAt(dir, slot);
    }

    public int kind(int node) {
        if (!disk.on) {
            return OFF;
        }
        return Nodes.isNumber(node) ? nodes.kindOf(node) : NO_DIRECTORY;
    }

    public int size(int node) {
        int no = refusalOfFree(node);
        if (no != FINE) {
            return no;
        }
        return nodes.kindOf(node) == DIRECTORY ? folders.nameCount(node) : bodies.byteCount(node);
    }

    public int mode(int node, int bits) {
        if (!store.commitOver(MOST_DIRTY)) {
            return OFF;
        }
        int no = refusalOfFree(node);
        if (no != FINE) {
            return no;
        }
        if (nodes.kindOf(node) == POINTER || bits < 0 || bits > ROOT_MODE) {
            return NOT_RIGHT;
        }
        if (who != 0 && who != nodes.ownerOf(node)) {
            return MAY_NOT;
        }
        int before = nodes.modeOf(node);
        if (bits != before) {
            nodes.setMode(node, bits);
        }
        return before;
    }

    public int give(int node, int user) {
        if (!store.commitOver(MOST_DIRTY)) {
            return OFF;
        }
        int no = refusalOfFree(node);
        if (no != FINE) {
            return no;
        }
        if (user < 0 || user >= MOST_USERS) {
            return NOT_RIGHT;
        }
        if (who != 0) {
            return MAY_NOT;
        }
        int before = nodes.ownerOf(node);
        if (user != before) {
            nodes.setOwner(node, user);
        }
        return before;
    }

    public int rights(int node, int what) {
        int no = refusalOfFree(node);
        if (no != FINE) {
            return no;
        }
        if (what == 0) {
            return nodes.ownerOf(node);
        }
        return what == 1 && nodes.kindOf(node) != POINTER ? nodes.modeOf(node) : NONE;
    }

    public int links(int node) {
        if (!disk.on) {
            return OFF;
        }
        return nodes.hasLinks(node) ? nodes.linksOf(node) : NO_FILE;
    }

    public int parent(int node) {
        if (!disk.on) {
            return OFF;
        }
        return nodes.kindOf(node) == DIRECTORY ? nodes.holderOf(node) : NO_DIRECTORY;
    }

    public int block(int node, int k) {
        if (!disk.on) {
            return OFF;
        }
        int x = bodies.blockOf(node, k);
        return x == 0 ? NONE : x;
    }

    public int byteAt(int file, int at) {
        if (!disk.on) {
            return OFF;
        }
        int kind = nodes.kindOf(file);
        if (kind != FILE && kind != LAID && kind != POINTER) {
            return NO_FILE;
        }
        if (kind != POINTER && !nodes.may(file, READ, who)) {
            return MAY_NOT;
        }
        return at < 0 || at >= bodies.byteCount(file) ? NONE : bodies.byteOf(file, at);
    }

    public int check() {
        return disk.on ? checker.wrongThings() : OFF;
    }

    public int scrub() {
        if (!disk.on) {
            return OFF;
        }
        int read = 0;
        for (int x = 0; x < disk.sectors; x++) {
            if (!space.isFree(x)) {
                volume.spot(x);
                read++;
            }
        }
        return read;
    }

    public int sync() {
        int dirty = store.dirtyCount;
        return store.commitOver(0) ? dirty : OFF;
    }

    public int clean() {
        return disk.on ? volume.step() : OFF;
    }

    public boolean power(int n) {
        disk.cut = Math.max(n, NONE);
        return disk.on;
    }

    public int restore() {
        int before = disk.writes();
        return store.comeBack() ? disk.writes() - before : OFF;
    }

    public int where(int x) {
        if (!disk.on) {
            return OFF;
        }
        return x < 0 || x >= disk.sectors ? NOT_RIGHT : volume.liveEntryOf(x);
    }

    public int mark(int band) {
        if (!disk.on) {
            return OFF;
        }
        return band < 0 || band >= volume.marks.length ? NOT_RIGHT : volume.marks[band];
    }

    public int count(int what) {
        switch (what) {
            case 0: return disk.entryWrites;
            case 1: return disk.bandWrites;
            case 2: return disk.scratchWrites;
            case 3: return disk.recordWrites;
            case 4: return volume.bandsDone;
            case 10: return store.commits;
            case 11: return disk.misreads;
            case 12: return disk.lostNow();
            case 13: return disk.sectors;
            default: return disk.on ? countInMemory(what) : OFF;
        }
    }

    private int countInMemory(int what) {
        switch (what) {
            case 5: return volume.freePlaces();
            case 6: return volume.liveEntries();
            case 7: return store.dirtyCount;
            case 8: return space.freeCount();
            case 9: return nodes.freeCount();
            case 14: return volume.cleanBand;
            case 15: return volume.nextKind();
            default: return NONE;
        }
    }

    private int refusalToGoBy(int dir, long name) {
        if (nodes.kindOf(dir) != DIRECTORY) {
            return NO_DIRECTORY;
        }
        if (!Folders.isName(name)) {
            return NO_NAME;
        }
        return nodes.may(dir, WRITE | GO, who) ? FINE : MAY_NOT;
    }

    /** Of two refusals the one that is told first holds: of these three the higher number. */
    private int refusalToGoByBoth(int dir, long name, int to, long other) {
        int first = refusalToGoBy(dir, name);
        int second = refusalToGoBy(to, other);
        return first == FINE || second == FINE ? Math.min(first, second) : Math.max(first, second);
    }

    private int refusalToAdd(int dir, long name) {
        int no = refusalToGoBy(dir, name);
        if (no != FINE) {
            return no;
        }
        return folders.seek(dir, name) == NONE ? FINE : THERE_ALREADY;
    }

    private int refusalToMove(int node, int dir, int to, int otherSlot) {
        boolean directory = nodes.kindOf(node) == DIRECTORY;
        if (directory && nodes.isWithin(to, node)) {
            return IN_ITSELF;
        }
        if (otherSlot == NONE) {
            return dir == to || folders.hasRoom(to, 0) ? FINE : NOTHING_FREE;
        }
        int there = folders.nodeAt(to, otherSlot);
        boolean otherDirectory = nodes.kindOf(there) == DIRECTORY;
        if (there == node || otherDirectory != directory) {
            return THERE_ALREADY;
        }
        return otherDirectory && folders.nameCount(there) > 0 ? NOT_EMPTY : FINE;
    }

    private int refusalToList(int dir) {
        if (!disk.on) {
            return OFF;
        }
        if (nodes.kindOf(dir) != DIRECTORY) {
            return NO_DIRECTORY;
        }
        return nodes.may(dir, READ, who) ? FINE : MAY_NOT;
    }

    private int refusalOfFree(int node) {
        if (!disk.on) {
            return OFF;
        }
        return nodes.kindOf(node) == FREE_NODE ? NO_DIRECTORY : FINE;
    }

    private int enter(int dir, long name, int kind, int mode) {
        int no = refusalToAdd(dir, name);
        if (no != FINE) {
            return no;
        }
        if (kind == POINTER && (tape.length == 0 || tape.length > MOST_TEXT)) {
            return NOT_RIGHT;
        }
        int node = nodes.lowestFree();
        if (node == NONE || !folders.hasRoom(dir, 0)) {
            return NOTHING_FREE;
        }
        nodes.begin(node, kind, who, mode);
        folders.add(dir, name, node);
        return node;
    }

    private int enterLaid(int dir, long name) {
        int no = refusalToAdd(dir, name);
        if (no != FINE) {
            return no;
        }
        if (tape.length == 0) {
            return NOT_RIGHT;
        }
        int node = nodes.lowestFree();
        int band = bandToLay();
        if (node == NONE || band == NONE || !folders.hasRoom(dir, disk.bandSize)) {
            return NOTHING_FREE;
        }
        if (!volume.stream(band, tape)) {
            return OFF;
        }
        // The band is taken ahead of the SLOT, so that a BLOCK for this is found outside of it.
        space.takeBand(band);
        nodes.begin(node, LAID, who, FILE_MODE);
        nodes.setHolder(node, band);
        folders.add(dir, name, node);
        return node;
    }

    private int bandToLay() {
        for (int band = volume.marks.length - 1; band >= 0; band--) {
            if (band != volume.cleanBand && space.isBandFree(band)) {
                return band;
            }
        }
        return NONE;
    }

    private int writeTape(int file, int at) {
        int kind = nodes.kindOf(file);
        if (kind != FILE && kind != LAID) {
            return NO_FILE;
        }
        if (!nodes.may(file, WRITE, who)) {
            return MAY_NOT;
        }
        int most = kind == FILE ? Bodies.MOST_BYTES : bodies.byteCount(file);
        if (at < 0 || at > most - tape.length) {
            return NOT_RIGHT;
        }
        if (tape.length == 0) {
            return 0;
        }
        if (kind == FILE && bodies.blocksWanted(file, at, tape.length) > space.freeCount()) {
            return NOTHING_FREE;
        }
        bodies.write(file, at, tape);
        return tape.length;
    }

    /** Bands, SCRATCH and THE CACHE, the WRITES that are done there, and the CUT that ends them. */
    private static final class Disk {
        final int bands;
        final int tracks;
        final int shingles;
        final int bandSize;
        final int sectors;
        final int places;
        /** First the SECTORS of all bands, then SCRATCH, then THE CACHE. */
        final long[] cells;
        /** Which SECTORS of bands and SCRATCH are destroyed or TORN. */
        final boolean[] lost;
        boolean on;
        int cut;
        int entryWrites;
        int bandWrites;
        int scratchWrites;
        int recordWrites;
        int misreads;

        Disk(int bands, int tracks, int shingles, int places) {
            this.bands = Math.max(4, Math.min(8, bands));
            this.tracks = Math.max(8, Math.min(32, tracks));
            this.shingles = Math.max(1, Math.min(4, shingles));
            this.bandSize = 8 * this.tracks;
            this.sectors = this.bands * bandSize;
            this.places = Math.max(64, Math.min(256, places));
            this.cells = new long[(sectors + bandSize + this.places) * WORDS];
            this.lost = new boolean[sectors + bandSize];
            this.on = true;
            this.cut = NONE;
        }

        /** What zeros stand for at the beginning: a root alone, and THE MAP with all below the first BLOCK set. */
        void format(int firstBlock, int firstNode) {
            for (int x = 0; x < firstBlock; x++) {
                int cell = JOURNAL_SIZE * WORDS + x / 64;
                if (cell < cells.length) {
                    cells[cell] |= 1L << (x % 64);
                }
            }
            if (firstNode >= 0 && firstNode < sectors) {
                cells[firstNode * WORDS] = DIRECTORY | (long) ROOT_MODE << 16;
            }
        }

        int writes() {
            return entryWrites + bandWrites + scratchWrites + recordWrites;
        }

        int lostNow() {
            int n = 0;
            for (int i = 0; i < lost.length; i++) {
                if (lost[i]) {
                    n++;
                }
            }
            return n;
        }

        /** Whether a WRITE is done; if not it is TORN, and the power is off. */
        boolean spend() {
            if (cut == 0) {
                cut = NONE;
                on = false;
                return false;
            }
            if (cut > 0) {
                cut--;
            }
            return true;
        }

        boolean writeRecord() {
            boolean done = spend();
            if (done) {
                recordWrites++;
            }
            return done;
        }

        boolean writeEntry(int place, long[] from, int at) {
            if (place < 0 || place >= places || at < 0 || at > from.length - WORDS || !spend()) {
                return false;
            }
            System.arraycopy(from, at, cells, (sectors + bandSize + place) * WORDS, WORDS);
            entryWrites++;
            return true;
        }

        /** A WRITE into a band, or into SCRATCH, whose SECTORS are numbered on behind those of the bands. */
        boolean writeShingle(int x, long[] from, int at) {
            if (x < 0 || x >= lost.length || at < 0 || at > from.length - WORDS) {
                return false;
            }
            int nextTrack = x - x % 8 + 8;
            int bandEnd = x - x % bandSize + bandSize;
            int end = Math.min(bandEnd, nextTrack + 8 * shingles);
            for (int i = nextTrack; i < end && i < lost.length; i++) {
                lost[i] = true;
            }
            boolean done = spend();
            lost[x] = !done;
            if (!done) {
                return false;
            }
            System.arraycopy(from, at, cells, x * WORDS, WORDS);
            if (x < sectors) {
                bandWrites++;
            } else {
                scratchWrites++;
            }
            return true;
        }
    }

    /**
     * The SECTORS of THE VOLUME: ENTRIES, MARKS, the CLEANER, and STREAMING. What a RECORD tells is changed only when
     * its WRITE is done, so these fields are always those of the RECORD that counts; how far MERGE and BACK are is
     * the one thing here that a CUT forgets.
     */
    private static final class Volume {
        static final int NOTHING = 0;
        static final int TRIM = 1;
        static final int PICK = 2;
        static final int MERGE = 3;
        static final int SAFE = 4;
        static final int BACK = 5;
        static final int DONE = 6;
        /** Far above the STEPS that clean every band: then some ENTRY is free. */
        static final int MOST_STEPS = 10000;

        final Disk disk;
        final int[] marks;
        /** Which SECTOR the ENTRY at a place of THE CACHE holds. */
        final int[] holds;
        /** The number of the last ENTRY of each SECTOR. */
        final int[] latest;
        final int[] tally;
        final long[] page;
        final Tape zeros;
        int head;
        int tail;
        int cleanBand;
        int limit;
        /** From SAFE to DONE alone: so never while the CLEANER is idle. */
        boolean safe;
        int track;
        int streamed;
        int bandsDone;

        Volume(Disk disk) {
            this.disk = disk;
            this.marks = new int[disk.bands];
            this.tally = new int[disk.bands];
            this.holds = new int[disk.places];
            this.latest = new int[disk.sectors];
            this.page = new long[WORDS];
            this.zeros = new Tape(0);
            Arrays.fill(latest, NONE);
            this.cleanBand = NONE;
            this.streamed = NONE;
        }

        int freePlaces() {
            return disk.places - (head - tail);
        }

        int liveEntryOf(int x) {
            if (x < 0 || x >= latest.length) {
                return NONE;
            }
            int q = latest[x];
            int band = x / disk.bandSize;
            return q >= tail && band < marks.length && q >= marks[band] ? q : NONE;
        }

        boolean isLive(int q) {
            int place = q % disk.places;
            int x = place >= 0 && place < holds.length ? holds[place] : NONE;
            int band = x / disk.bandSize;
            return x >= 0 && x < latest.length && band < marks.length && latest[x] == q && q >= marks[band];
        }

        int liveEntries() {
            int n = 0;
            for (int q = tail; q < head; q++) {
                if (isLive(q)) {
                    n++;
                }
            }
            return n;
        }

        int oldest() {
            for (int q = tail; q < head; q++) {
                if (isLive(q)) {
                    return q;
                }
            }
            return head;
        }

        /** The first cell of what a SECTOR holds: to ask for it is to read it. */
        int spot(int x) {
            if (x < 0 || x >= latest.length) {
                return 0;
            }
            int band = x / disk.bandSize;
            int q = latest[x];
            if (q >= tail && band < marks.length && q >= marks[band]) {
                return (disk.lost.length + q % disk.places) * WORDS;
            }
            int home = safe && band == cleanBand ? disk.sectors + x % disk.bandSize : x;
            if (home < disk.lost.length && disk.lost[home]) {
                disk.misreads++;
            }
            return home * WORDS;
        }

        /** A SECTOR is WRITTEN, with the STEPS ahead of it; false if the power fails. */
        boolean write(int x, long[] from, int at) {
            if (4 * freePlaces() < disk.places && step() == OFF) {
                return false;
            }
            for (int i = 0; i < MOST_STEPS && freePlaces() == 0; i++) {
                if (step() == OFF) {
                    return false;
                }
            }
            int place = head % disk.places;
            if (x < 0 || x >= latest.length || place >= holds.length || !disk.writeEntry(place, from, at)) {
                return false;
            }
            holds[place] = x;
            latest[x] = head;
            head++;
            return true;
        }

        int nextKind() {
            if (cleanBand == NONE) {
                int first = oldest();
                if (first - tail >= disk.places / 4) {
                    return TRIM;
                }
                return first == head ? NOTHING : PICK;
            }
            if (track < disk.tracks) {
                return safe ? BACK : MERGE;
            }
            return safe ? DONE : SAFE;
        }

        /** One STEP of the CLEANER: its KIND, or OFF if the power fails in it. */
        int step() {
            int kind = nextKind();
            boolean done = true;
            switch (kind) {
                case TRIM: done = trim(); break;
                case PICK: done = pick(); break;
                case MERGE: done = merge(); break;
                case SAFE: done = becomeSafe(); break;
                case BACK: done = bringBack(); break;
                case DONE: done = finish(); break;
                default: break;
            }
            return done ? kind : OFF;
        }

        boolean trim() {
            if (!disk.writeRecord()) {
                return false;
            }
            tail = oldest();
            return true;
        }

        boolean pick() {
            if (!disk.writeRecord()) {
                return false;
            }
            Arrays.fill(tally, 0);
            for (int q = tail; q < head; q++) {
                int place = q % disk.places;
                int band = place >= 0 && place < holds.length ? holds[place] / disk.bandSize : NONE;
                if (band >= 0 && band < tally.length && isLive(q)) {
                    tally[band]++;
                }
            }
            int most = 0;
            for (int band = 1; band < tally.length; band++) {
                if (tally[band] > tally[most]) {
                    most = band;
                }
            }
            cleanBand = most;
            limit = head;
            track = 0;
            return true;
        }

        boolean merge() {
            for (int i = 0; i < 8; i++) {
                int within = 8 * track + i;
                int from = spot(cleanBand * disk.bandSize + within);
                if (!disk.writeShingle(disk.sectors + within, disk.cells, from)) {
                    return false;
                }
            }
            track++;
            return true;
        }

        boolean becomeSafe() {
            if (!disk.writeRecord()) {
                return false;
            }
            safe = true;
            track = 0;
            return true;
        }

        boolean bringBack() {
            for (int i = 0; i < 8; i++) {
                int within = 8 * track + i;
                int scratch = disk.sectors + within;
                if (scratch < disk.lost.length && disk.lost[scratch]) {
                    disk.misreads++;
                }
                if (!disk.writeShingle(cleanBand * disk.bandSize + within, disk.cells, scratch * WORDS)) {
                    return false;
                }
            }
            track++;
            return true;
        }

        boolean finish() {
            if (cleanBand < 0 || cleanBand >= marks.length || !disk.writeRecord()) {
                return false;
            }
            marks[cleanBand] = limit;
            cleanBand = NONE;
            safe = false;
            tail = oldest();
            bandsDone++;
            return true;
        }

        boolean stream(int band, Tape tape) {
            if (band < 0 || band >= marks.length || !disk.writeRecord()) {
                return false;
            }
            marks[band] = head;
            streamed = band;
            return fill(tape) && endStream();
        }

        /** The STREAMED band is written with the bytes of a tape, again and again; zeros if it is empty. */
        boolean fill(Tape tape) {
            int next = 0;
            for (int i = 0; i < disk.bandSize; i++) {
                for (int w = 0; w < WORDS; w++) {
                    long word = 0;
                    for (int k = 0; k < 8; k++) {
                        word |= (long) tape.byteOf(next) << (8 * k);
                        next = next + 1 < tape.length ? next + 1 : 0;
                    }
                    page[w] = word;
                }
                if (!disk.writeShingle(streamed * disk.bandSize + i, page, 0)) {
                    return false;
                }
            }
            return true;
        }

        boolean endStream() {
            if (!disk.writeRecord()) {
                return false;
            }
            streamed = NONE;
            tail = oldest();
            return true;
        }

        /** What the RECORD that counts tells is brought to its end; false if the power fails. */
        boolean recover() {
            track = 0;
            if (!safe) {
                cleanBand = NONE;
            }
            if (cleanBand != NONE) {
                for (int i = 0; i < disk.tracks; i++) {
                    if (!bringBack()) {
                        return false;
                    }
                }
                if (!finish()) {
                    return false;
                }
            }
            return streamed == NONE || fill(zeros) && endStream();
        }
    }

    /** What files see of the SECTORS: the DIRTY ones in memory, the others on the disk; and THE JOURNAL. */
    private static final class Store {
        static final int TOLD_BY_ONE = 24;
        /** In THE JOURNAL's first SECTOR, behind the numbers that it tells: how many are told in all. */
        static final int COUNT_WORD = 6;

        final Disk disk;
        final Volume volume;
        final long[] memory;
        final boolean[] dirty;
        final int[] chosen;
        final long[] page;
        int dirtyCount;
        int commits;
        /** Whether THE JOURNAL still tells what was COMMITTED last: it is as its SECTORS are, a CUT leaves it. */
        boolean told;

        Store(Disk disk, Volume volume) {
            this.disk = disk;
            this.volume = volume;
            this.memory = new long[disk.sectors * WORDS];
            this.dirty = new boolean[disk.sectors];
            this.chosen = new int[disk.sectors];
            this.page = new long[WORDS];
        }

        long word(int x, int w) {
            if (x < 0 || x >= dirty.length || w < 0 || w >= WORDS) {
                return 0;
            }
            return dirty[x] ? memory[x * WORDS + w] : disk.cells[volume.spot(x) + w];
        }

        long committedWord(int x, int w) {
            if (x < 0 || x >= dirty.length || w < 0 || w >= WORDS) {
                return 0;
            }
            return disk.cells[volume.spot(x) + w];
        }

        /** Every change goes through here (or through clear): so no SECTOR is changed without being DIRTY. */
        void setWord(int x, int w, long value) {
            if (x < 0 || x >= dirty.length || w < 0 || w >= WORDS) {
                return;
            }
            if (!dirty[x]) {
                System.arraycopy(disk.cells, volume.spot(x), memory, x * WORDS, WORDS);
                dirty[x] = true;
                dirtyCount++;
            }
            memory[x * WORDS + w] = value;
        }

        /** The number at a place of what tells BLOCKS. Told as 0 is that there is none: that itself tells none. */
        int half(int x, int i) {
            return x == 0 ? 0 : (int) (word(x, i / 4) >>> (16 * (i % 4))) & 0xFFFF;
        }

        void setHalf(int x, int i, int value) {
            int shift = 16 * (i % 4);
            long others = word(x, i / 4) & ~(0xFFFFL << shift);
            setWord(x, i / 4, others | (value & 0xFFFFL) << shift);
        }

        int octet(int x, int i) {
            return (int) (word(x, i / 8) >>> (8 * (i % 8))) & 0xFF;
        }

        void setOctet(int x, int i, int value) {
            int shift = 8 * (i % 8);
            long others = word(x, i / 8) & ~(0xFFL << shift);
            setWord(x, i / 8, others | (value & 0xFFL) << shift);
        }

        /** A SECTOR is changed wholly, to zeros, whatever it held. */
        void clear(int x) {
            if (x < 0 || x >= dirty.length) {
                return;
            }
            if (!dirty[x]) {
                dirty[x] = true;
                dirtyCount++;
            }
            for (int w = 0; w < WORDS; w++) {
                memory[x * WORDS + w] = 0;
            }
        }

        void forget(int x) {
            if (x >= 0 && x < dirty.length && dirty[x]) {
                dirty[x] = false;
                dirtyCount--;
            }
        }

        void forgetAll() {
            for (int x = 0; x < dirty.length; x++) {
                dirty[x] = false;
            }
            dirtyCount = 0;
        }

        /** COMMITS if more SECTORS than that are DIRTY; whether the power is on behind it. */
        boolean commitOver(int most) {
            if (!disk.on) {
                return false;
            }
            if (dirtyCount <= most) {
                return true;
            }
            int n = 0;
            for (int x = 0; x < dirty.length; x++) {
                if (dirty[x] && n < chosen.length) {
                    chosen[n] = x;
                    n++;
                }
            }
            if (!writeJournal(n)) {
                return false;
            }
            told = true;
            commits++;
            for (int i = 0; i < n; i++) {
                if (!volume.write(chosen[i], memory, chosen[i] * WORDS)) {
                    return false;
                }
            }
            forgetAll();
            return true;
        }

        boolean writeJournal(int n) {
            int lists = (n + TOLD_BY_ONE - 1) / TOLD_BY_ONE;
            for (int i = 0; i < lists; i++) {
                listChosen(i * TOLD_BY_ONE, n);
                if (!volume.write(i, page, 0)) {
                    return false;
                }
                told = false;
            }
            for (int i = 0; i < n; i++) {
                if (!volume.write(lists + i, memory, chosen[i] * WORDS)) {
                    return false;
                }
            }
            Arrays.fill(page, 0L);
            return volume.write(lists + n, page, 0);
        }

        void listChosen(int first, int n) {
            Arrays.fill(page, 0L);
            for (int i = 0; i < TOLD_BY_ONE && first + i < n; i++) {
                page[i / 4] |= (long) chosen[first + i] << (16 * (i % 4));
            }
            page[COUNT_WORD] = n;
        }

        /** RESTORE; false if the power fails in it. */
        boolean comeBack() {
            disk.on = true;
            forgetAll();
            return volume.recover() && (!told || writeToldAgain());
        }

        boolean writeToldAgain() {
            int n = (int) word(0, COUNT_WORD);
            int lists = (n + TOLD_BY_ONE - 1) / TOLD_BY_ONE;
            for (int i = 0; i < n && lists + i < JOURNAL_SIZE; i++) {
                int place = i % TOLD_BY_ONE;
                int x = (int) (word(i / TOLD_BY_ONE, place / 4) >>> (16 * (place % 4))) & 0xFFFF;
                // A copy, for the STEPS ahead of the ENTRY may bring the SECTOR of THE JOURNAL to another place.
                System.arraycopy(disk.cells, volume.spot(lists + i), page, 0, WORDS);
                if (!volume.write(x, page, 0)) {
                    return false;
                }
            }
            return true;
        }
    }

    /** THE MAP: which BLOCKS are free. */
    private static final class Space {
        final Store store;
        final int sectors;
        final int bandSize;
        final int mapWords;
        final int firstNode;
        final int firstBlock;

        Space(Disk disk, Store store) {
            this.store = store;
            this.sectors = disk.sectors;
            this.bandSize = disk.bandSize;
            this.mapWords = (sectors + 63) / 64;
            this.firstNode = JOURNAL_SIZE + (sectors + 511) / 512;
            this.firstBlock = firstNode + NODE_COUNT;
        }

        boolean isSet(int x) {
            return (store.word(JOURNAL_SIZE + x / 512, x % 512 / 64) >>> (x % 64) & 1) != 0;
        }

        boolean wasSet(int x) {
            return (store.committedWord(JOURNAL_SIZE + x / 512, x % 512 / 64) >>> (x % 64) & 1) != 0;
        }

        boolean isFree(int x) {
            return x >= firstBlock && x < sectors && !isSet(x);
        }

        int freeCount() {
            int used = 0;
            for (int i = 0; i < mapWords; i++) {
                used += Long.bitCount(store.word(JOURNAL_SIZE + i / WORDS, i % WORDS));
            }
            return sectors - used;
        }

        /** The lowest free BLOCK, changed wholly to zeros; 0 if there is none. */
        int takeBlank() {
            for (int i = 0; i < mapWords; i++) {
                long free = ~store.word(JOURNAL_SIZE + i / WORDS, i % WORDS);
                long lowest = free & -free;
                int x = 64 * i + Long.bitCount(lowest - 1);
                if (free != 0 && x < sectors) {
                    store.setWord(JOURNAL_SIZE + i / WORDS, i % WORDS, ~free | lowest);
                    store.clear(x);
                    return x;
                }
            }
            return 0;
        }

        void giveBack(int x) {
            int w = x % 512 / 64;
            long set = store.word(JOURNAL_SIZE + x / 512, w);
            store.setWord(JOURNAL_SIZE + x / 512, w, set & ~(1L << (x % 64)));
            store.forget(x);
        }

        /** Whether all SECTORS of a band are free BLOCKS, now and as COMMITTED last. */
        boolean isBandFree(int band) {
            int first = band * bandSize;
            for (int x = first; x < first + bandSize; x++) {
                if (!isFree(x) || wasSet(x)) {
                    return false;
                }
            }
            return true;
        }

        void takeBand(int band) {
            int first = band * bandSize;
            for (int x = first; x < first + bandSize; x++) {
                int w = x % 512 / 64;
                long set = store.word(JOURNAL_SIZE + x / 512, w);
                store.setWord(JOURNAL_SIZE + x / 512, w, set | 1L << (x % 64));
            }
        }

        int giveBackBand(int band) {
            int first = band * bandSize;
            for (int x = first; x < first + bandSize; x++) {
                giveBack(x);
            }
            return bandSize;
        }
    }

    /** What a NODE's SECTOR tells, but for the BLOCKS; and who may do what with it. */
    private static final class Nodes {
        static final int KIND_BYTE = 0;
        static final int OWNER_BYTE = 1;
        static final int MODE_BYTE = 2;
        static final int LINKS_BYTE = 3;
        static final int HOLDER_HALF = 18;
        static final int FIRST_TEXT_BYTE = 24;

        final Store store;
        final int firstNode;

        Nodes(Store store, int firstNode) {
            this.store = store;
            this.firstNode = firstNode;
        }

        static boolean isNumber(int node) {
            return node >= 0 && node < NODE_COUNT;
        }

        int sectorOf(int node) {
            return firstNode + node;
        }

        /** A number that is none of a NODE is taken for a free one. */
        int kindOf(int node) {
            return isNumber(node) ? store.octet(firstNode + node, KIND_BYTE) : FREE_NODE;
        }

        boolean hasLinks(int node) {
            int kind = kindOf(node);
            return kind == FILE || kind == LAID;
        }

        int ownerOf(int node) {
            return store.octet(firstNode + node, OWNER_BYTE);
        }

        void setOwner(int node, int user) {
            store.setOctet(firstNode + node, OWNER_BYTE, user);
        }

        int modeOf(int node) {
            return store.octet(firstNode + node, MODE_BYTE);
        }

        void setMode(int node, int bits) {
            store.setOctet(firstNode + node, MODE_BYTE, bits);
        }

        int linksOf(int node) {
            return store.octet(firstNode + node, LINKS_BYTE);
        }

        void setLinks(int node, int n) {
            store.setOctet(firstNode + node, LINKS_BYTE, n);
        }

        /** The bytes of a FILE, or of a POINTER's TEXT. */
        int lengthOf(int node) {
            return (int) (store.word(firstNode + node, 0) >>> 32);
        }

        void setLength(int node, int bytes) {
            long others = store.word(firstNode + node, 0) & 0xFFFFFFFFL;
            store.setWord(firstNode + node, 0, others | (long) bytes << 32);
        }

        /** The PARENT of a DIRECTORY, the band of a LAID FILE. */
        int holderOf(int node) {
            return store.half(firstNode + node, HOLDER_HALF);
        }

        void setHolder(int node, int holder) {
            store.setHalf(firstNode + node, HOLDER_HALF, holder);
        }

        void setText(int node, Tape tape) {
            int n = Math.min(tape.length, MOST_TEXT);
            for (int i = 0; i < n; i++) {
                store.setOctet(firstNode + node, FIRST_TEXT_BYTE + i, tape.byteOf(i));
            }
            setLength(node, n);
        }

        boolean may(int node, int right, int who) {
            if (who == 0) {
                return true;
            }
            long word = store.word(firstNode + node, 0);
            int owner = (int) (word >>> (8 * OWNER_BYTE)) & 0xFF;
            int bits = (int) (word >>> (8 * MODE_BYTE)) & 0xFF;
            return ((who == owner ? bits >> 3 : bits) & right) == right;
        }

        /** Whether a DIRECTORY is another one or somewhere in it. */
        boolean isWithin(int node, int top) {
            int at = node;
            for (int i = 0; i < NODE_COUNT; i++) {
                if (at == top) {
                    return true;
                }
                at = holderOf(at);
            }
            return false;
        }

        int lowestFree() {
            for (int node = 0; node < NODE_COUNT; node++) {
                if (kindOf(node) == FREE_NODE) {
                    return node;
                }
            }
            return NONE;
        }

        int freeCount() {
            int n = 0;
            for (int node = 0; node < NODE_COUNT; node++) {
                if (kindOf(node) == FREE_NODE) {
                    n++;
                }
            }
            return n;
        }

        /** A NODE is taken; with one LINK, if it is of those that have any. */
        void begin(int node, int kind, int owner, int mode) {
            int oneLink = kind == FILE || kind == LAID ? 1 : 0;
            store.clear(firstNode + node);
            store.setWord(firstNode + node, 0, kind | owner << 8 | mode << 16 | (long) oneLink << 24);
        }
    }

    /** The SLOTS of DIRECTORIES, numbered on through their BLOCKS: four NAMES lead a BLOCK, then their NODES. */
    private static final class Folders {
        static final int MOST_BLOCKS = 12;
        static final int IN_BLOCK = 4;
        static final int FIRST_BLOCK_HALF = 4;
        static final int FIRST_NODE_HALF = 16;

        final Store store;
        final Space space;
        final Nodes nodes;
        final long[] keys;
        final int[] slots;

        Folders(Store store, Space space, Nodes nodes) {
            this.store = store;
            this.space = space;
            this.nodes = nodes;
            this.keys = new long[MOST_BLOCKS * IN_BLOCK];
            this.slots = new int[MOST_BLOCKS * IN_BLOCK];
        }

        static boolean isNameByte(int b) {
            return b >= 'a' && b <= 'z' || b >= '0' && b <= '9' || b == '-' || b == '_' || b == '.';
        }

        static boolean isName(long name) {
            long rest = name;
            for (int i = 0; i < 8 && rest != 0; i++) {
                if (!isNameByte((int) (rest & 0xFF))) {
                    return false;
                }
                rest >>>= 8;
            }
            return name != 0;
        }

        /** The order of NAMES is that of these numbers: their first byte is the highest one here. */
        static long orderKey(long name) {
            long key = 0;
            for (int i = 0; i < 8; i++) {
                key = key << 8 | name >>> (8 * i) & 0xFF;
            }
            return key;
        }

        int blockAt(int dir, int i) {
            return store.half(nodes.sectorOf(dir), FIRST_BLOCK_HALF + i);
        }

        int seek(int dir, long name) {
            for (int i = 0; i < MOST_BLOCKS; i++) {
                int x = blockAt(dir, i);
                if (x == 0) {
                    return NONE;
                }
                for (int s = 0; s < IN_BLOCK; s++) {
                    if (store.word(x, s) == name) {
                        return IN_BLOCK * i + s;
                    }
                }
            }
            return NONE;
        }

        int nodeAt(int dir, int slot) {
            return store.half(blockAt(dir, slot / IN_BLOCK), FIRST_NODE_HALF + slot % IN_BLOCK);
        }

        /** 0 in a free SLOT, and where there is no BLOCK. */
        long nameAt(int dir, int slot) {
            int x = blockAt(dir, slot / IN_BLOCK);
            return x == 0 ? 0 : store.word(x, slot % IN_BLOCK);
        }

        void fillSlot(int x, int s, long name, int node) {
            store.setWord(x, s, name);
            store.setHalf(x, FIRST_NODE_HALF + s, node);
        }

        void takeOut(int dir, int slot) {
            fillSlot(blockAt(dir, slot / IN_BLOCK), slot % IN_BLOCK, 0, 0);
        }

        /** Whether there is a SLOT, or a BLOCK for one beside so many that are kept for something else. */
        boolean hasRoom(int dir, int kept) {
            if (seek(dir, 0) != NONE) {
                return true;
            }
            return blockAt(dir, MOST_BLOCKS - 1) == 0 && space.freeCount() > kept;
        }

        /** Only where there is room. */
        void add(int dir, long name, int node) {
            int slot = seek(dir, 0);
            if (slot != NONE) {
                fillSlot(blockAt(dir, slot / IN_BLOCK), slot % IN_BLOCK, name, node);
                return;
            }
            for (int i = 0; i < MOST_BLOCKS; i++) {
                if (blockAt(dir, i) == 0) {
                    int x = space.takeBlank();
                    store.setHalf(nodes.sectorOf(dir), FIRST_BLOCK_HALF + i, x);
                    fillSlot(x, 0, name, node);
                    return;
                }
            }
        }

        int nameCount(int dir) {
            int n = 0;
            for (int slot = 0; slot < MOST_BLOCKS * IN_BLOCK; slot++) {
                if (nameAt(dir, slot) != 0) {
                    n++;
                }
            }
            return n;
        }

        int slotInOrder(int dir, int k) {
            int n = 0;
            for (int slot = 0; slot < keys.length && slot < slots.length; slot++) {
                long name = nameAt(dir, slot);
                if (name != 0) {
                    keys[n] = orderKey(name);
                    slots[n] = slot;
                    n++;
                }
            }
            for (int i = 0; i < n; i++) {
                int ahead = 0;
                for (int j = 0; j < n; j++) {
                    if (keys[j] < keys[i]) {
                        ahead++;
                    }
                }
                if (ahead == k) {
                    return slots[i];
                }
            }
            return NONE;
        }
    }

    /** The BLOCKS of FILES and LAID FILES, the bytes in them, and what becomes of both when a NODE is dropped. */
    private static final class Bodies {
        static final int MOST_BYTES = 68352;
        static final int MOST_PIECES = 1068;
        static final int OWN_PIECES = 12;
        static final int IN_INDEX = 32;
        /** The first PIECE that is told through the DOUBLE. */
        static final int FIRST_FAR = OWN_PIECES + IN_INDEX;
        static final int FIRST_PIECE_HALF = 4;
        static final int INDEX_HALF = 16;
        static final int DOUBLE_HALF = 17;

        final Store store;
        final Space space;
        final Nodes nodes;
        final int bandSize;

        Bodies(Store store, Space space, Nodes nodes, int bandSize) {
            this.store = store;
            this.space = space;
            this.nodes = nodes;
            this.bandSize = bandSize;
        }

        int byteCount(int node) {
            return nodes.kindOf(node) == LAID ? BYTES * bandSize : nodes.lengthOf(node);
        }

        int byteOf(int node, int at) {
            int kind = nodes.kindOf(node);
            if (kind == POINTER) {
                return store.octet(nodes.sectorOf(node), Nodes.FIRST_TEXT_BYTE + at);
            }
            int x = kind == LAID ? laidBlock(node, at / BYTES) : pieceBlock(node, at / BYTES);
            return x == 0 ? 0 : store.octet(x, at % BYTES);
        }

        int laidBlock(int node, int k) {
            return k < 0 || k >= bandSize ? 0 : nodes.holderOf(node) * bandSize + k;
        }

        int pieceBlock(int node, int piece) {
            int sector = nodes.sectorOf(node);
            if (piece < 0 || piece >= MOST_PIECES) {
                return 0;
            }
            if (piece < OWN_PIECES) {
                return store.half(sector, FIRST_PIECE_HALF + piece);
            }
            if (piece < FIRST_FAR) {
                return store.half(store.half(sector, INDEX_HALF), piece - OWN_PIECES);
            }
            int far = piece - FIRST_FAR;
            return store.half(farIndex(node, far / IN_INDEX), far % IN_INDEX);
        }

        int farIndex(int node, int i) {
            return i < 0 || i >= IN_INDEX ? 0 : store.half(store.half(nodes.sectorOf(node), DOUBLE_HALF), i);
        }

        /** What block() answers, but 0 for none. */
        int blockOf(int node, int k) {
            int kind = nodes.kindOf(node);
            if (kind == DIRECTORY) {
                return k < 0 || k >= OWN_PIECES ? 0 : store.half(nodes.sectorOf(node), FIRST_PIECE_HALF + k);
            }
            if (kind == LAID) {
                return laidBlock(node, k);
            }
            if (kind != FILE) {
                return 0;
            }
            if (k == -1) {
                return store.half(nodes.sectorOf(node), INDEX_HALF);
            }
            if (k == -2) {
                return store.half(nodes.sectorOf(node), DOUBLE_HALF);
            }
            return k < 0 ? farIndex(node, -3 - k) : pieceBlock(node, k);
        }

        /** How many BLOCKS a FILE has to take before so many bytes go into it. */
        int blocksWanted(int node, int at, int bytes) {
            int sector = nodes.sectorOf(node);
            int first = at / BYTES;
            int last = (at + bytes - 1) / BYTES;
            int wanted = 0;
            for (int piece = first; piece <= last && piece < MOST_PIECES; piece++) {
                if (pieceBlock(node, piece) == 0) {
                    wanted++;
                }
            }
            if (last >= OWN_PIECES && first < FIRST_FAR && store.half(sector, INDEX_HALF) == 0) {
                wanted++;
            }
            if (last >= FIRST_FAR && store.half(sector, DOUBLE_HALF) == 0) {
                wanted++;
            }
            for (int i = 0; i < IN_INDEX; i++) {
                int start = FIRST_FAR + IN_INDEX * i;
                if (last >= start && first < start + IN_INDEX && farIndex(node, i) == 0) {
                    wanted++;
                }
            }
            return wanted;
        }

        void write(int node, int at, Tape tape) {
            boolean laid = nodes.kindOf(node) == LAID;
            int x = 0;
            for (int i = 0; i < tape.length; i++) {
                int within = (at + i) % BYTES;
                if (i == 0 || within == 0) {
                    int piece = (at + i) / BYTES;
                    x = laid ? laidBlock(node, piece) : takePiece(node, piece);
                }
                store.setOctet(x, within, tape.byteOf(i));
            }
            if (!laid && at + tape.length > nodes.lengthOf(node)) {
                nodes.setLength(node, at + tape.length);
            }
        }

        /** The BLOCK of a PIECE; what isn't there is taken: the DOUBLE, the INDEX, then the BLOCK itself. */
        int takePiece(int node, int piece) {
            int sector = nodes.sectorOf(node);
            if (piece < OWN_PIECES) {
                return takeTold(sector, FIRST_PIECE_HALF + piece);
            }
            if (piece < FIRST_FAR) {
                return takeTold(takeTold(sector, INDEX_HALF), piece - OWN_PIECES);
            }
            int far = piece - FIRST_FAR;
            return takeTold(takeTold(takeTold(sector, DOUBLE_HALF), far / IN_INDEX), far % IN_INDEX);
        }

        int takeTold(int sector, int place) {
            int x = store.half(sector, place);
            if (x == 0) {
                x = space.takeBlank();
                store.setHalf(sector, place, x);
            }
            return x;
        }

        /** A FILE becomes shorter: how many BLOCKS it gave back. */
        int shorten(int node, int bytes) {
            int within = bytes % BYTES;
            int x = within == 0 ? 0 : pieceBlock(node, bytes / BYTES);
            for (int i = within; i < BYTES && x != 0; i++) {
                store.setOctet(x, i, 0);
            }
            nodes.setLength(node, bytes);
            return giveBackFrom(node, (bytes + BYTES - 1) / BYTES);
        }

        int giveBackFrom(int node, int piece) {
            int sector = nodes.sectorOf(node);
            int given = giveBackTold(sector, FIRST_PIECE_HALF + Math.min(piece, OWN_PIECES), INDEX_HALF);
            given += giveBackIndex(sector, INDEX_HALF, piece - OWN_PIECES);
            int twice = store.half(sector, DOUBLE_HALF);
            if (twice == 0) {
                return given;
            }
            for (int i = 0; i < IN_INDEX; i++) {
                given += giveBackIndex(twice, i, piece - FIRST_FAR - IN_INDEX * i);
            }
            return given + giveBackEmpty(sector, DOUBLE_HALF);
        }

        /** From a place of an INDEX on all is given back, and the INDEX itself if it tells none any more. */
        int giveBackIndex(int teller, int place, int from) {
            int index = store.half(teller, place);
            if (index == 0 || from >= IN_INDEX) {
                return 0;
            }
            int given = giveBackTold(index, Math.max(from, 0), IN_INDEX);
            return given + giveBackEmpty(teller, place);
        }

        int giveBackTold(int sector, int from, int to) {
            int given = 0;
            for (int place = from; place < to; place++) {
                int x = store.half(sector, place);
                if (x != 0) {
                    space.giveBack(x);
                    store.setHalf(sector, place, 0);
                    given++;
                }
            }
            return given;
        }

        int giveBackEmpty(int teller, int place) {
            int index = store.half(teller, place);
            for (int w = 0; w < WORDS; w++) {
                if (store.word(index, w) != 0) {
                    return 0;
                }
            }
            space.giveBack(index);
            store.setHalf(teller, place, 0);
            return 1;
        }

        /** One SLOT less has a NODE: how many BLOCKS that gives back. */
        int dropOne(int node) {
            int links = nodes.linksOf(node);
            if (links > 1) {
                nodes.setLinks(node, links - 1);
                return 0;
            }
            int kind = nodes.kindOf(node);
            int sector = nodes.sectorOf(node);
            int given = 0;
            if (kind == FILE) {
                given = giveBackFrom(node, 0);
            } else if (kind == LAID) {
                given = space.giveBackBand(nodes.holderOf(node));
            } else if (kind == DIRECTORY) {
                given = giveBackTold(sector, FIRST_PIECE_HALF, INDEX_HALF);
            }
            store.clear(sector);
            return given;
        }
    }

    /** Bytes on their way in. */
    private static final class Tape {
        static final int MOST = 1280;

        final int[] bytes;
        int length;

        Tape(int most) {
            this.bytes = new int[most];
        }

        void append(int four) {
            for (int shift = 24; shift >= 0; shift -= 8) {
                if (length < bytes.length) {
                    bytes[length] = four >>> shift & 0xFF;
                    length++;
                }
            }
        }

        int byteOf(int i) {
            return i >= 0 && i < length && i < bytes.length ? bytes[i] : 0;
        }
    }

    /** WALKS: the tape, and the TEXTS that it leads through, are read each from where it was left. */
    private static final class Walker {
        static final int MOST_POINTERS = 8;
        /** Above all parts of a tape and of eight TEXTS. */
        static final int MOST_PARTS = 4096;

        final Store store;
        final Nodes nodes;
        final Folders folders;
        final Tape tape;
        /** The POINTERS whose TEXTS are not yet read to the end, the last one on top; NONE stands for the tape. */
        final int[] sources;
        final int[] nexts;
        int depth;
        int pointers;
        int here;
        /** The part at which the WALK is: bytes from .. to - 1 of its source. */
        int source;
        int from;
        int to;

        Walker(Store store, Nodes nodes, Folders folders, Tape tape) {
            this.store = store;
            this.nodes = nodes;
            this.folders = folders;
            this.tape = tape;
            this.sources = new int[MOST_POINTERS + 1];
            this.nexts = new int[MOST_POINTERS + 1];
        }

        int follow(int dir, int who) {
            depth = 0;
            pointers = 0;
            here = dir;
            begin(NONE);
            for (int i = 0; i < MOST_PARTS && depth > 0; i++) {
                nextPart();
                int no = goPart(who);
                if (no != FINE) {
                    return no;
                }
            }
            return here;
        }

        void begin(int text) {
            if (depth < sources.length && depth < nexts.length) {
                sources[depth] = text;
                nexts[depth] = 0;
                depth++;
            }
            if (byteOf(text, 0) == SLASH) {
                here = ROOT;
            }
        }

        int byteOf(int text, int i) {
            return text == NONE ? tape.byteOf(i) : store.octet(nodes.sectorOf(text), Nodes.FIRST_TEXT_BYTE + i);
        }

        void nextPart() {
            int top = depth - 1;
            if (top < 0 || top >= sources.length || top >= nexts.length) {
                return;
            }
            source = sources[top];
            from = nexts[top];
            int length = source == NONE ? tape.length : nodes.lengthOf(source);
            to = from;
            while (to < length && byteOf(source, to) != SLASH) {
                to++;
            }
            nexts[top] = to + 1;
            if (to >= length) {
                depth = top;
            }
        }

        int goPart(int who) {
            if (nodes.kindOf(here) != DIRECTORY) {
                return NOT_THERE;
            }
            boolean dot = to - from >= 1 && byteOf(source, from) == '.';
            if (to == from || dot && to - from == 1) {
                return FINE;
            }
            if (dot && to - from == 2 && byteOf(source, from + 1) == '.') {
                here = nodes.holderOf(here);
                return FINE;
            }
            long name = partName();
            if (name == 0) {
                return NO_NAME;
            }
            if (!nodes.may(here, GO, who)) {
                return MAY_NOT;
            }
            int slot = folders.seek(here, name);
            if (slot == NONE) {
                return NOT_THERE;
            }
            int node = folders.nodeAt(here, slot);
            if (nodes.kindOf(node) != POINTER) {
                here = node;
                return FINE;
            }
            if (pointers >= MOST_POINTERS) {
                return TOO_MANY_POINTERS;
            }
            pointers++;
            begin(node);
            return FINE;
        }

        /** The part as a NAME; 0 if it is none. */
        long partName() {
            if (to - from > 8) {
                return 0;
            }
            long name = 0;
            for (int i = from; i < to; i++) {
                int b = byteOf(source, i);
                if (!Folders.isNameByte(b)) {
                    return 0;
                }
                name |= (long) b << (8 * (i - from));
            }
            return name;
        }
    }

    /** Goes through all that is told and counts what isn't as it must be. */
    private static final class Checker {
        final Disk disk;
        final Store store;
        final Space space;
        final Nodes nodes;
        /** How many have each SECTOR. */
        final int[] uses;
        /** How many SLOTS have each NODE, and the DIRECTORY of the last one. */
        final int[] slotsOf;
        final int[] foundIn;
        int wrong;

        Checker(Disk disk, Store store, Space space, Nodes nodes) {
            this.disk = disk;
            this.store = store;
            this.space = space;
            this.nodes = nodes;
            this.uses = new int[disk.sectors];
            this.slotsOf = new int[NODE_COUNT];
            this.foundIn = new int[NODE_COUNT];
        }

        int wrongThings() {
            wrong = 0;
            Arrays.fill(uses, 0);
            Arrays.fill(slotsOf, 0);
            Arrays.fill(foundIn, NONE);
            for (int node = 0; node < NODE_COUNT; node++) {
                switch (nodes.kindOf(node)) {
                    case FILE: useFile(node); break;
                    case DIRECTORY: useDirectory(node); break;
                    case LAID: useLaid(node); break;
                    default: break;
                }
            }
            for (int node = 0; node < NODE_COUNT; node++) {
                expect(isHeldRight(node));
            }
            for (int x = 0; x < uses.length; x++) {
                expect(uses[x] <= 1);
                expect(space.isSet(x) == (x < space.firstBlock || uses[x] > 0));
            }
            return wrong;
        }

        void expect(boolean right) {
            if (!right) {
                wrong++;
            }
        }

        void use(int x) {
            if (x >= space.firstBlock && x < uses.length) {
                uses[x]++;
            } else {
                wrong++;
            }
        }

        void useFile(int node) {
            int sector = nodes.sectorOf(node);
            int pieces = (nodes.lengthOf(node) + BYTES - 1) / BYTES;
            useTold(sector, Bodies.FIRST_PIECE_HALF, Bodies.OWN_PIECES, pieces);
            useIndex(store.half(sector, Bodies.INDEX_HALF), pieces - Bodies.OWN_PIECES);
            int twice = store.half(sector, Bodies.DOUBLE_HALF);
            if (twice == 0) {
                return;
            }
            use(twice);
            boolean tells = false;
            for (int i = 0; i < Bodies.IN_INDEX; i++) {
                int index = store.half(twice, i);
                tells = tells || index != 0;
                useIndex(index, pieces - Bodies.FIRST_FAR - Bodies.IN_INDEX * i);
            }
            expect(tells);
        }

        void useIndex(int index, int pieces) {
            if (index != 0) {
                use(index);
                expect(useTold(index, 0, Bodies.IN_INDEX, pieces) > 0);
            }
        }

        /** How many BLOCKS are told; one behind so many PIECES is wrong. */
        int useTold(int sector, int first, int most, int pieces) {
            int found = 0;
            for (int i = 0; i < most; i++) {
                int x = store.half(sector, first + i);
                if (x != 0) {
                    use(x);
                    expect(i < pieces);
                    found++;
                }
            }
            return found;
        }

        void useLaid(int node) {
            int first = nodes.holderOf(node) * disk.bandSize;
            for (int i = 0; i < disk.bandSize; i++) {
                use(first + i);
            }
        }

        void useDirectory(int dir) {
            for (int i = 0; i < Folders.MOST_BLOCKS; i++) {
                int x = store.half(nodes.sectorOf(dir), Folders.FIRST_BLOCK_HALF + i);
                if (x == 0) {
                    continue;
                }
                use(x);
                for (int s = 0; s < Folders.IN_BLOCK; s++) {
                    if (store.word(x, s) != 0) {
                        useSlot(dir, store.half(x, Folders.FIRST_NODE_HALF + s));
                    }
                }
            }
        }

        void useSlot(int dir, int node) {
            if (node < 0 || node >= slotsOf.length || node >= foundIn.length) {
                wrong++;
                return;
            }
            slotsOf[node]++;
            foundIn[node] = dir;
        }

        boolean isHeldRight(int node) {
            if (node < 0 || node >= slotsOf.length || node >= foundIn.length) {
                return false;
            }
            switch (nodes.kindOf(node)) {
                case FREE_NODE:
                    return slotsOf[node] == 0;
                case DIRECTORY:
                    if (node == ROOT) {
                        return slotsOf[node] == 0 && nodes.holderOf(node) == ROOT;
                    }
                    return slotsOf[node] == 1 && nodes.holderOf(node) == foundIn[node] && nodes.isWithin(node, ROOT);
                case POINTER:
                    return slotsOf[node] == 1;
                default:
                    return slotsOf[node] > 0 && slotsOf[node] == nodes.linksOf(node);
            }
        }
    }
}
