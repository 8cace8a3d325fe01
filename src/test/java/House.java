import java.nio.charset.StandardCharsets;

/** A ShingleHouse that is called with texts, and for no more calls than the 512 that the document tells of. */
final class House {
    private final ShingleHouse house;
    private int calls = 0;

    House(int bands, int tracks, int shingles, int cache) {
        house = new ShingleHouse(bands, tracks, shingles, cache);
    }

    /**
     * 256 SECTORS in bands of 64: THE JOURNAL 0 .. 79, THE MAP 80, NODES 81 .. 144, BLOCKS 145 .. 255, of which band 2
     * has 145 .. 191 and band 3 the others.
     */
    static House small() {
        return new House(4, 8, 1, 64);
    }

    /** 2048 SECTORS in bands of 256: THE MAP 80 .. 83, NODES 84 .. 147, BLOCKS from 148 on. */
    static House large() {
        return new House(8, 32, 1, 256);
    }

    /** A small one whose power has failed at the first WRITE of its first COMMIT. */
    static House off() {
        House h = small();
        h.make(0, "a");
        h.power(0);
        h.sync();
        return h;
    }

    /** What a FILE named a (NODE 1) was COMMITTED with: ENTRIES 0 .. 5 of THE JOURNAL, 6 .. 9 of SECTORS 80, 81, 82, 145. */
    static House one() {
        House h = small();
        h.make(0, "a");
        h.sync();
        return h;
    }

    /** A small one with one of each kind. */
    static House kinds() {
        return small().oneOfEach();
    }

    /** A DIRECTORY of user 3 (NODE 1, named d) with a FILE of his (NODE 2, named f); it is he who acts. */
    static House owned() {
        House h = small();
        h.as(3);
        h.dir(0, "d");
        h.make(1, "f");
        return h;
    }

    static long n(String name) {
        long all = 0;
        for (int i = 0; i < name.length(); i++) {
            all |= (long) name.charAt(i) << 8 * i;
        }
        return all;
    }

    private ShingleHouse x() {
        calls++;
        if (calls > 512) {
            throw new IllegalStateException("what a 513th call answers is free");
        }
        return house;
    }

    // ---- the tape

    boolean feed(int a, int b, int c, int d, int e) {
        return x().feed(a, b, c, d, e);
    }

    boolean end(int n) {
        return x().end(n);
    }

    /** The tape has these bytes alone. */
    House tape(String text) {
        byte[] bytes = text.getBytes(StandardCharsets.ISO_8859_1);
        end(0);
        for (int at = 0; at < bytes.length; at += 20) {
            int[] w = new int[5];
            for (int i = 0; i < 20 && at + i < bytes.length; i++) {
                w[i / 4] |= (bytes[at + i] & 255) << 24 - 8 * (i % 4);
            }
            feed(w[0], w[1], w[2], w[3], w[4]);
        }
        end(bytes.length);
        return this;
    }

    /** The tape has so many bytes, each an x. */
    House tape(int bytes) {
        return tape("x".repeat(bytes));
    }

    // ---- calls by NAMES as texts, and with what is on the tape

    int make(int dir, String name) {
        return make(dir, n(name));
    }

    int dir(int dir, String name) {
        return dir(dir, n(name));
    }

    int lay(int dir, String name, String bytes) {
        return tape(bytes).lay(dir, n(name));
    }

    int point(int dir, String name, String text) {
        return tape(text).point(dir, n(name));
    }

    int link(int dir, String name, int file) {
        return link(dir, n(name), file);
    }

    int put(int file, int at, String bytes) {
        return tape(bytes).put(file, at);
    }

    int put(int file, int at, int bytes) {
        return tape(bytes).put(file, at);
    }

    int drop(int dir, String name) {
        return drop(dir, n(name));
    }

    int rename(int dir, String name, int to, String other) {
        return rename(dir, n(name), to, n(other));
    }

    int find(int dir, String name) {
        return find(dir, n(name));
    }

    int walk(int dir, String path) {
        return tape(path).walk(dir);
    }

    // ---- states that many tests begin with

    /** NODE 1 is a FILE f of 3 bytes, 2 a DIRECTORY d with a NAME f (of 1), 3 a LAID FILE l, 4 a POINTER p of 5 bytes. */
    House oneOfEach() {
        make(0, "f");
        put(1, 0, "abc");
        dir(0, "d");
        link(2, "f", 1);
        lay(0, "l", "laid");
        point(0, "p", "a/b/c");
        return this;
    }

    /** FILES named f0, f1, .. in the root. */
    House files(int n) {
        for (int i = 0; i < n; i++) {
            make(0, "f" + i);
        }
        return this;
    }

    /** Leaves so few BLOCKS free, at most 30: a LAID FILE (NODE 1) has band 3, FILES (NODES 2, 3) what they have to. */
    House leaveFree(int blocks) {
        lay(0, "laid", "l");
        for (int file = make(0, "r0"); file <= 3 && count(8) > blocks; file = make(0, "r1")) {
            for (int piece = 0; piece < 44 && count(8) > blocks; piece++) {
                feed(1, 2, 3, 4, 5);
                put(file, 64 * piece);
            }
        }
        sync();
        return this;
    }

    /** So many SECTORS are DIRTY, NODES all of them, of FILES f0 .. f40 in the root. */
    House dirtyNodes(int n) {
        files(41);
        sync();
        for (int node = 1; node <= n; node++) {
            mode(node, 7);
        }
        return this;
    }

    /** The root's MODE is COMMITTED so many times: each time ENTRIES of SECTORS 0, 1, 2 and of the root's NODE. */
    House commitRoot(int times) {
        for (int i = 0; i < times; i++) {
            mode(0, rights(0, 1) ^ 1);
            sync();
        }
        return this;
    }

    /** STEPS until the next one is of that KIND; how many. */
    int cleanUntil(int kind) {
        int steps = 0;
        while (steps < 200 && count(15) != kind) {
            clean();
            steps++;
        }
        return steps;
    }

    /** STEPS until there is nothing to clean: all SECTORS are at their HOMES. */
    House cleanAll() {
        int steps = 0;
        while (steps < 300 && clean() > 0) {
            steps++;
        }
        return this;
    }

    /** So many STEPS. */
    House cleanTimes(int n) {
        for (int i = 0; i < n; i++) {
            clean();
        }
        return this;
    }

    int writes() {
        return count(0) + count(1) + count(2) + count(3);
    }

    // ---- the face

    int as(int user) {
        return x().as(user);
    }

    int make(int dir, long name) {
        return x().make(dir, name);
    }

    int dir(int dir, long name) {
        return x().dir(dir, name);
    }

    int lay(int dir, long name) {
        return x().lay(dir, name);
    }

    int point(int dir, long name) {
        return x().point(dir, name);
    }

    int link(int dir, long name, int file) {
        return x().link(dir, name, file);
    }

    int put(int file, int at) {
        return x().put(file, at);
    }

    int cut(int file, int size) {
        return x().cut(file, size);
    }

    int drop(int dir, long name) {
        return x().drop(dir, name);
    }

    int rename(int dir, long name, int to, long other) {
        return x().rename(dir, name, to, other);
    }

    int find(int dir, long name) {
        return x().find(dir, name);
    }

    int walk(int dir) {
        return x().walk(dir);
    }

    int entry(int dir, int k) {
        return x().entry(dir, k);
    }

    long name(int dir, int k) {
        return x().name(dir, k);
    }

    int kind(int node) {
        return x().kind(node);
    }

    int size(int node) {
        return x().size(node);
    }

    int mode(int node, int bits) {
        return x().mode(node, bits);
    }

    int give(int node, int user) {
        return x().give(node, user);
    }

    int rights(int node, int what) {
        return x().rights(node, what);
    }

    int links(int node) {
        return x().links(node);
    }

    int parent(int node) {
        return x().parent(node);
    }

    int block(int node, int k) {
        return x().block(node, k);
    }

    int byteAt(int file, int at) {
        return x().byteAt(file, at);
    }

    int check() {
        return x().check();
    }

    int scrub() {
        return x().scrub();
    }

    int sync() {
        return x().sync();
    }

    int clean() {
        return x().clean();
    }

    boolean power(int n) {
        return x().power(n);
    }

    int restore() {
        return x().restore();
    }

    int where(int x) {
        return x().where(x);
    }

    int mark(int band) {
        return x().mark(band);
    }

    int count(int what) {
        return x().count(what);
    }
}
