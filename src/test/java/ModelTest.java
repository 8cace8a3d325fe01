import java.util.ArrayList;
import java.util.Arrays;
import java.util.HashMap;
import java.util.List;
import java.util.Map;
import java.util.Random;
import java.util.TreeMap;
import java.util.TreeSet;

/**
 * Random runs of calls, each answered by ShingleHouse and by a plain model of the document, which holds the tree as
 * objects, copies it whole at each COMMIT, and looks for LIVE ENTRIES by their definition.
 */
public final class ModelTest {
    static final int NONE = -1;
    static final int OFF = -99;
    static final int RUNS = 1500;
    static final int CALLS = 511;

    /** Thrown where the power fails. */
    static final class Cut extends RuntimeException {
        private static final long serialVersionUID = 1L;
    }

    static final class Slot {
        final long name;
        final int node;

        Slot(long name, int node) {
            this.name = name;
            this.node = node;
        }
    }

    static final class Node {
        int kind;
        int owner;
        int mode;
        int links;
        int size;
        int parent;
        int band;
        byte[] bytes = new byte[0];
        final TreeMap<Integer, Integer> pieces = new TreeMap<>();
        int index;
        int twice;
        final TreeMap<Integer, Integer> indexes = new TreeMap<>();
        final List<Integer> blocks = new ArrayList<>();
        final List<Slot> slots = new ArrayList<>();

        Node copy() {
            Node n = new Node();
            n.kind = kind;
            n.owner = owner;
            n.mode = mode;
            n.links = links;
            n.size = size;
            n.parent = parent;
            n.band = band;
            n.bytes = bytes.clone();
            n.pieces.putAll(pieces);
            n.index = index;
            n.twice = twice;
            n.indexes.putAll(indexes);
            n.blocks.addAll(blocks);
            n.slots.addAll(slots);
            return n;
        }
    }

    static final class Model {
        final int bands;
        final int tracks;
        final int shingles;
        final int cache;
        final int sectors;
        final int firstNode;
        final int firstBlock;
        boolean on = true;
        int planned = NONE;
        final int[] counts = new int[5];
        int commits;
        final TreeSet<Integer> lost = new TreeSet<>();

        final List<Integer> entries = new ArrayList<>();
        int tail;
        final int[] marks;
        int cleanBand = NONE;
        int limit;
        boolean safe;
        int merged;
        int back;
        int streamed = NONE;

        Node[] nodes = new Node[64];
        TreeSet<Integer> used = new TreeSet<>();
        Node[] committedNodes;
        TreeSet<Integer> committedUsed;
        final TreeSet<Integer> dirty = new TreeSet<>();
        List<Integer> told;

        byte[] tape = new byte[0];
        int who;

        Model(int b, int t, int s, int c) {
            bands = clamp(b, 4, 8);
            tracks = clamp(t, 8, 32);
            shingles = clamp(s, 1, 4);
            cache = clamp(c, 64, 256);
            sectors = 8 * tracks * bands;
            marks = new int[bands];
            firstNode = 80 + (sectors + 511) / 512;
            firstBlock = firstNode + 64;
            for (int i = 0; i < 64; i++) {
                nodes[i] = new Node();
            }
            nodes[0].kind = 2;
            nodes[0].mode = 63;
            keep();
        }

        static int clamp(int x, int low, int high) {
            return x < low ? low : x > high ? high : x;
        }

        void keep() {
            committedNodes = new Node[64];
            for (int i = 0; i < 64; i++) {
                committedNodes[i] = nodes[i].copy();
            }
            committedUsed = new TreeSet<>(used);
        }

        // ---- the disk

        void spend(int what) {
            if (planned == 0) {
                planned = NONE;
                on = false;
                throw new Cut();
            }
            if (planned > 0) {
                planned--;
            }
            counts[what]++;
        }

        /** Band number bands is SCRATCH. */
        void shingle(int band, int within) {
            int track = within / 8;
            for (int t = track + 1; t <= track + shingles && t < tracks; t++) {
                for (int i = 0; i < 8; i++) {
                    lost.add(band * 8 * tracks + 8 * t + i);
                }
            }
            lost.add(band * 8 * tracks + within);
            spend(band == bands ? 2 : 1);
            lost.remove(band * 8 * tracks + within);
        }

        // ---- the volume

        int bandOf(int x) {
            return x / (8 * tracks);
        }

        int live(int x) {
            for (int q = entries.size() - 1; q >= tail; q--) {
                if (entries.get(q) == x) {
                    return q >= marks[bandOf(x)] ? q : NONE;
                }
            }
            return NONE;
        }

        TreeMap<Integer, Integer> liveOnes() {
            Map<Integer, Integer> last = new HashMap<>();
            for (int q = tail; q < entries.size(); q++) {
                last.put(entries.get(q), q);
            }
            TreeMap<Integer, Integer> found = new TreeMap<>();
            for (Map.Entry<Integer, Integer> e : last.entrySet()) {
                if (e.getValue() >= marks[bandOf(e.getKey())]) {
                    found.put(e.getValue(), e.getKey());
                }
            }
            return found;
        }

        int oldest() {
            TreeMap<Integer, Integer> found = liveOnes();
            return found.isEmpty() ? entries.size() : found.firstKey();
        }

        int free() {
            return cache - (entries.size() - tail);
        }

        int nextKind() {
            if (cleanBand == NONE) {
                if (oldest() - tail >= cache / 4) {
                    return 1;
                }
                return liveOnes().isEmpty() ? 0 : 2;
            }
            if (merged < tracks) {
                return 3;
            }
            if (!safe) {
                return 4;
            }
            return back < tracks ? 5 : 6;
        }

        int step() {
            int kind = nextKind();
            if (kind == 1) {
                spend(3);
                tail = oldest();
            } else if (kind == 2) {
                spend(3);
                int[] n = new int[bands];
                for (int x : liveOnes().values()) {
                    n[bandOf(x)]++;
                }
                int best = 0;
                for (int b = 0; b < bands; b++) {
                    if (n[b] > n[best]) {
                        best = b;
                    }
                }
                cleanBand = best;
                limit = entries.size();
                merged = 0;
                safe = false;
                back = 0;
            } else if (kind == 3) {
                for (int i = 0; i < 8; i++) {
                    shingle(bands, 8 * merged + i);
                }
                merged++;
            } else if (kind == 4) {
                spend(3);
                safe = true;
            } else if (kind == 5) {
                for (int i = 0; i < 8; i++) {
                    shingle(cleanBand, 8 * back + i);
                }
                back++;
            } else if (kind == 6) {
                done();
            }
            return kind;
        }

        void done() {
            spend(3);
            marks[cleanBand] = limit;
            cleanBand = NONE;
            safe = false;
            tail = oldest();
            counts[4]++;
        }

        void write(int x) {
            if (4 * free() < cache) {
                step();
            }
            while (free() == 0) {
                step();
            }
            spend(0);
            entries.add(x);
        }

        // ---- the journal

        void commit() {
            if (dirty.isEmpty()) {
                return;
            }
            List<Integer> which = new ArrayList<>(dirty);
            int all = (which.size() + 23) / 24 + which.size() + 1;
            if (all > 80) {
                throw new IllegalStateException("the journal is too short");
            }
            for (int i = 0; i < all; i++) {
                write(i);
                told = null;
            }
            told = which;
            commits++;
            keep();
            for (int x : which) {
                write(x);
            }
            dirty.clear();
        }

        void ahead() {
            if (!on) {
                throw new Cut();
            }
            if (dirty.size() > 40) {
                commit();
            }
        }

        int restore() {
            int before = counts[0] + counts[1] + counts[2] + counts[3];
            on = true;
            dirty.clear();
            nodes = new Node[64];
            for (int i = 0; i < 64; i++) {
                nodes[i] = committedNodes[i].copy();
            }
            used = new TreeSet<>(committedUsed);
            if (cleanBand != NONE) {
                if (safe) {
                    for (int i = 0; i < 8 * tracks; i++) {
                        shingle(cleanBand, i);
                    }
                    done();
                } else {
                    cleanBand = NONE;
                }
            }
            if (streamed != NONE) {
                for (int i = 0; i < 8 * tracks; i++) {
                    shingle(streamed, i);
                }
                spend(3);
                streamed = NONE;
                tail = oldest();
            }
            if (told != null) {
                for (int x : told) {
                    write(x);
                }
            }
            return counts[0] + counts[1] + counts[2] + counts[3] - before;
        }

        // ---- files

        int freeBlocks() {
            return sectors - firstBlock - used.size();
        }

        void touchNode(int n) {
            dirty.add(firstNode + n);
        }

        void touchMap(int x) {
            dirty.add(80 + x / 512);
        }

        int take() {
            for (int x = firstBlock; x < sectors; x++) {
                if (!used.contains(x)) {
                    used.add(x);
                    touchMap(x);
                    dirty.add(x);
                    return x;
                }
            }
            throw new IllegalStateException("no block");
        }

        void giveBack(int x) {
            used.remove(x);
            touchMap(x);
            dirty.remove(x);
        }

        Node node(int n) {
            return n >= 0 && n < 64 ? nodes[n] : new Node();
        }

        boolean isDir(int n) {
            return node(n).kind == 2;
        }

        boolean may(int n, int bits) {
            Node x = node(n);
            int has = who == x.owner ? x.mode / 8 : x.mode % 8;
            return who == 0 || (has & bits) == bits;
        }

        static boolean isName(long name) {
            StringBuilder s = new StringBuilder();
            for (int i = 0; i < 8; i++) {
                s.append((char) (name >>> 8 * i & 255));
            }
            String t = s.toString();
            while (t.endsWith("\0")) {
                t = t.substring(0, t.length() - 1);
            }
            return t.matches("[a-z0-9_.-]{1,8}");
        }

        static String text(long name) {
            StringBuilder s = new StringBuilder();
            for (int i = 0; i < 8 && (name >>> 8 * i & 255) != 0; i++) {
                s.append((char) (name >>> 8 * i & 255));
            }
            return s.toString();
        }

        int slotOf(int dir, long name) {
            List<Slot> all = nodes[dir].slots;
            for (int i = 0; i < all.size(); i++) {
                if (all.get(i) != null && all.get(i).name == name) {
                    return i;
                }
            }
            return NONE;
        }

        int names(int dir) {
            int n = 0;
            for (Slot s : nodes[dir].slots) {
                n += s == null ? 0 : 1;
            }
            return n;
        }

        boolean room(int dir, int kept) {
            return nodes[dir].slots.contains(null) || nodes[dir].blocks.size() < 12 && freeBlocks() - kept > 0;
        }

        void addSlot(int dir, long name, int node) {
            Node d = nodes[dir];
            int i = d.slots.indexOf(null);
            if (i < 0) {
                d.blocks.add(take());
                touchNode(dir);
                i = d.slots.size();
                d.slots.addAll(Arrays.asList(null, null, null, null));
            }
            d.slots.set(i, new Slot(name, node));
            dirty.add(d.blocks.get(i / 4));
        }

        void removeSlot(int dir, int i) {
            nodes[dir].slots.set(i, null);
            dirty.add(nodes[dir].blocks.get(i / 4));
        }

        int freeNode() {
            for (int i = 0; i < 64; i++) {
                if (nodes[i].kind == 0) {
                    return i;
                }
            }
            return NONE;
        }

        int naming(int dir, long name) {
            if (!isDir(dir)) {
                return -10;
            }
            if (!isName(name)) {
                return -11;
            }
            return may(dir, 3) ? 0 : -20;
        }

        int make(int kind, int dir, long name) {
            int no = naming(dir, name);
            if (no != 0) {
                return no;
            }
            if (slotOf(dir, name) != NONE) {
                return -13;
            }
            if (kind == 3 && tape.length == 0 || kind == 4 && (tape.length == 0 || tape.length > 40)) {
                return -15;
            }
            int n = freeNode();
            int band = NONE;
            if (kind == 3) {
                for (int b = 0; b < bands; b++) {
                    boolean good = b != cleanBand;
                    for (int x = b * 8 * tracks; x < (b + 1) * 8 * tracks; x++) {
                        good &= x >= firstBlock && !used.contains(x) && !committedUsed.contains(x);
                    }
                    band = good ? b : band;
                }
                if (band == NONE) {
                    return -16;
                }
            }
            if (n == NONE || !room(dir, kind == 3 ? 8 * tracks : 0)) {
                return -16;
            }
            Node fresh = new Node();
            fresh.kind = kind;
            fresh.owner = who;
            fresh.mode = kind == 2 ? 61 : kind == 4 ? 0 : 52;
            fresh.links = kind == 1 || kind == 3 ? 1 : 0;
            fresh.parent = dir;
            if (kind == 3) {
                spend(3);
                marks[band] = entries.size();
                streamed = band;
                for (int i = 0; i < 8 * tracks; i++) {
                    shingle(band, i);
                }
                spend(3);
                streamed = NONE;
                tail = oldest();
                fresh.band = band;
                fresh.size = 512 * tracks;
                fresh.bytes = new byte[fresh.size];
                for (int i = 0; i < fresh.size; i++) {
                    fresh.bytes[i] = tape[i % tape.length];
                }
                for (int x = band * 8 * tracks; x < (band + 1) * 8 * tracks; x++) {
                    used.add(x);
                    touchMap(x);
                }
            }
            if (kind == 4) {
                fresh.size = tape.length;
                fresh.bytes = tape.clone();
            }
            nodes[n] = fresh;
            touchNode(n);
            addSlot(dir, name, n);
            return n;
        }

        int link(int dir, long name, int file) {
            int no = naming(dir, name);
            if (no != 0) {
                return no;
            }
            Node f = node(file);
            if (f.kind != 1 && f.kind != 3) {
                return -14;
            }
            if (slotOf(dir, name) != NONE) {
                return -13;
            }
            if (f.links == 255) {
                return -15;
            }
            if (!room(dir, 0)) {
                return -16;
            }
            addSlot(dir, name, file);
            touchNode(file);
            return ++f.links;
        }

        int put(int file, int at) {
            Node f = node(file);
            if (f.kind != 1 && f.kind != 3) {
                return -14;
            }
            if (!may(file, 2)) {
                return -20;
            }
            long most = f.kind == 1 ? 68352 : f.size;
            if (at < 0 || (long) at + tape.length > most) {
                return -15;
            }
            if (tape.length == 0) {
                return 0;
            }
            int last = (at + tape.length - 1) / 64;
            if (f.kind == 3) {
                for (int p = at / 64; p <= last; p++) {
                    dirty.add(f.band * 8 * tracks + p);
                }
                System.arraycopy(tape, 0, f.bytes, at, tape.length);
                return tape.length;
            }
            TreeSet<String> wanted = new TreeSet<>();
            for (int p = at / 64; p <= last; p++) {
                if (!f.pieces.containsKey(p)) {
                    wanted.add("p" + p);
                    if (p >= 12 && p < 44 && f.index == 0) {
                        wanted.add("index");
                    }
                    if (p >= 44) {
                        if (f.twice == 0) {
                            wanted.add("double");
                        }
                        if (!f.indexes.containsKey((p - 44) / 32)) {
                            wanted.add("i" + (p - 44) / 32);
                        }
                    }
                }
            }
            if (wanted.size() > freeBlocks()) {
                return -16;
            }
            for (int p = at / 64; p <= last; p++) {
                if (!f.pieces.containsKey(p)) {
                    takePiece(file, f, p);
                }
                dirty.add(f.pieces.get(p));
            }
            if (at + tape.length > f.size) {
                f.size = at + tape.length;
                f.bytes = Arrays.copyOf(f.bytes, f.size);
                touchNode(file);
            }
            System.arraycopy(tape, 0, f.bytes, at, tape.length);
            return tape.length;
        }

        void takePiece(int file, Node f, int p) {
            if (p < 12) {
                touchNode(file);
            } else if (p < 44) {
                if (f.index == 0) {
                    f.index = take();
                    touchNode(file);
                }
                dirty.add(f.index);
            } else {
                if (f.twice == 0) {
                    f.twice = take();
                    touchNode(file);
                }
                int i = (p - 44) / 32;
                if (!f.indexes.containsKey(i)) {
                    f.indexes.put(i, take());
                    dirty.add(f.twice);
                }
                dirty.add(f.indexes.get(i));
            }
            f.pieces.put(p, take());
        }

        int cut(int file, int size) {
            Node f = node(file);
            if (f.kind != 1) {
                return -14;
            }
            if (!may(file, 2)) {
                return -20;
            }
            if (size < 0 || size > f.size) {
                return -15;
            }
            if (size == f.size) {
                return 0;
            }
            if (size % 64 != 0 && f.pieces.containsKey(size / 64)) {
                dirty.add(f.pieces.get(size / 64));
            }
            f.size = size;
            f.bytes = Arrays.copyOf(f.bytes, size);
            touchNode(file);
            return release(f, (size + 63) / 64);
        }

        int release(Node f, int keep) {
            int n = 0;
            TreeSet<Integer> changed = new TreeSet<>();
            for (int p : new ArrayList<>(f.pieces.tailMap(keep, true).keySet())) {
                if (p >= 12) {
                    changed.add(p < 44 ? f.index : f.indexes.get((p - 44) / 32));
                }
                giveBack(f.pieces.remove(p));
                n++;
            }
            if (f.index != 0 && f.pieces.subMap(12, 44).isEmpty()) {
                changed.remove(f.index);
                giveBack(f.index);
                f.index = 0;
                n++;
            }
            for (int i : new ArrayList<>(f.indexes.keySet())) {
                if (f.pieces.subMap(44 + 32 * i, 76 + 32 * i).isEmpty()) {
                    int x = f.indexes.remove(i);
                    changed.remove(x);
                    giveBack(x);
                    changed.add(f.twice);
                    n++;
                }
            }
            if (f.twice != 0 && f.indexes.isEmpty()) {
                changed.remove(f.twice);
                giveBack(f.twice);
                f.twice = 0;
                n++;
            }
            dirty.addAll(changed);
            return n;
        }

        int unlink(int n) {
            Node f = nodes[n];
            touchNode(n);
            if (f.links > 1) {
                f.links--;
                return 0;
            }
            int given = 0;
            if (f.kind == 1) {
                given = release(f, 0);
            } else if (f.kind == 2) {
                for (int x : f.blocks) {
                    giveBack(x);
                    given++;
                }
            } else if (f.kind == 3) {
                for (int i = 0; i < 8 * tracks; i++) {
                    giveBack(f.band * 8 * tracks + i);
                    given++;
                }
            }
            nodes[n] = new Node();
            return given;
        }

        int drop(int dir, long name) {
            int no = naming(dir, name);
            if (no != 0) {
                return no;
            }
            int s = slotOf(dir, name);
            if (s == NONE) {
                return -12;
            }
            int n = nodes[dir].slots.get(s).node;
            if (isDir(n) && names(n) > 0) {
                return -17;
            }
            removeSlot(dir, s);
            return unlink(n);
        }

        int rename(int dir, long name, int to, long other) {
            if (!isDir(dir) || !isDir(to)) {
                return -10;
            }
            if (!isName(name) || !isName(other)) {
                return -11;
            }
            if (!may(dir, 3) || !may(to, 3)) {
                return -20;
            }
            int s = slotOf(dir, name);
            if (s == NONE) {
                return -12;
            }
            int n = nodes[dir].slots.get(s).node;
            if (dir == to && name == other) {
                return n;
            }
            if (isDir(n)) {
                for (int d = to; ; d = nodes[d].parent) {
                    if (d == n) {
                        return -18;
                    }
                    if (d == 0) {
                        break;
                    }
                }
            }
            int o = slotOf(to, other);
            if (o != NONE) {
                int e = nodes[to].slots.get(o).node;
                if (e == n || isDir(e) != isDir(n)) {
                    return -13;
                }
                if (isDir(e) && names(e) > 0) {
                    return -17;
                }
                unlink(e);
                removeSlot(to, o);
            } else if (dir != to && !room(to, 0)) {
                return -16;
            }
            removeSlot(dir, s);
            addSlot(to, other, n);
            if (isDir(n) && dir != to) {
                nodes[n].parent = to;
                touchNode(n);
            }
            return n;
        }

        int walk(int dir) {
            if (!isDir(dir)) {
                return -10;
            }
            int[] pointers = {0};
            return walk(dir, tape, pointers);
        }

        int walk(int from, byte[] path, int[] pointers) {
            String s = new String(path, java.nio.charset.StandardCharsets.ISO_8859_1);
            int here = s.startsWith("/") ? 0 : from;
            for (String part : s.split("/", -1)) {
                if (!isDir(here)) {
                    return -12;
                }
                if (part.isEmpty() || part.equals(".")) {
                    continue;
                }
                if (part.equals("..")) {
                    here = nodes[here].parent;
                    continue;
                }
                if (!part.matches("[a-z0-9_.-]{1,8}") || part.contains("\n")) {
                    return -11;
                }
                if (!may(here, 1)) {
                    return -20;
                }
                int next = NONE;
                for (Slot slot : nodes[here].slots) {
                    if (slot != null && text(slot.name).equals(part)) {
                        next = slot.node;
                    }
                }
                if (next == NONE) {
                    return -12;
                }
                if (nodes[next].kind == 4) {
                    if (++pointers[0] == 9) {
                        return -19;
                    }
                    next = walk(here, nodes[next].bytes, pointers);
                    if (next < 0) {
                        return next;
                    }
                }
                here = next;
            }
            return here;
        }

        Slot inOrder(int dir, int k) {
            TreeMap<String, Slot> sorted = new TreeMap<>();
            for (Slot s : nodes[dir].slots) {
                if (s != null) {
                    sorted.put(text(s.name), s);
                }
            }
            List<Slot> all = new ArrayList<>(sorted.values());
            return k < 0 || k >= all.size() ? null : all.get(k);
        }

        int block(int n, int k) {
            Node f = node(n);
            Integer x = null;
            if (f.kind == 1) {
                if (k >= 0) {
                    x = f.pieces.get(k);
                } else if (k == -1) {
                    x = f.index == 0 ? null : (Integer) f.index;
                } else if (k == -2) {
                    x = f.twice == 0 ? null : (Integer) f.twice;
                } else {
                    x = f.indexes.get(-3 - k);
                }
            } else if (f.kind == 2 && k >= 0 && k < f.blocks.size()) {
                x = f.blocks.get(k);
            } else if (f.kind == 3 && k >= 0 && k < 8 * tracks) {
                x = 8 * tracks * f.band + k;
            }
            return x == null ? NONE : x;
        }

        int count(int what) {
            if (what >= 0 && what <= 4) {
                return counts[what];
            }
            switch (what) {
                case 10: return commits;
                case 11: return 0;
                case 12: return lost.size();
                case 13: return sectors;
                default: break;
            }
            if (!on) {
                return OFF;
            }
            switch (what) {
                case 5: return free();
                case 6: return liveOnes().size();
                case 7: return dirty.size();
                case 8: return freeBlocks();
                case 9:
                    int n = 0;
                    for (Node x : nodes) {
                        n += x.kind == 0 ? 1 : 0;
                    }
                    return n;
                case 14: return cleanBand;
                case 15: return nextKind();
                default: return NONE;
            }
        }

        // ---- one call by its number; the arguments are those of the call

        long call(int op, int a, long p, int b, long q) {
            try {
                return answer(op, a, p, b, q);
            } catch (Cut e) {
                return OFF;
            } finally {
                if (op == LAY || op == POINT || op == PUT || op == WALK) {
                    tape = new byte[0];
                }
            }
        }

        long answer(int op, int a, long p, int b, long q) {
            switch (op) {
                case MAKE: ahead(); return make(1, a, p);
                case DIR: ahead(); return make(2, a, p);
                case LAY: ahead(); return make(3, a, p);
                case POINT: ahead(); return make(4, a, p);
                case LINK: ahead(); return link(a, p, b);
                case PUT: ahead(); return put(a, b);
                case CUT: ahead(); return cut(a, b);
                case DROP: ahead(); return drop(a, p);
                case RENAME: ahead(); return rename(a, p, b, q);
                case MODE: ahead(); return mode(a, b);
                case GIVE: ahead(); return give(a, b);
                case RESTORE: return restore();
                case COUNT: return count(a);
                default: break;
            }
            if (!on) {
                return OFF;
            }
            switch (op) {
                case AS:
                    if (a < 0 || a > 15) {
                        return -15;
                    }
                    int was = who;
                    who = a;
                    return was;
                case FIND:
                    if (!isDir(a)) {
                        return -10;
                    }
                    if (!isName(p)) {
                        return -11;
                    }
                    if (!may(a, 1)) {
                        return -20;
                    }
                    return slotOf(a, p) == NONE ? -12 : nodes[a].slots.get(slotOf(a, p)).node;
                case WALK: return walk(a);
                case ENTRY:
                case NAME:
                    if (!isDir(a)) {
                        return -10;
                    }
                    if (!may(a, 4)) {
                        return -20;
                    }
                    Slot s = inOrder(a, b);
                    return s == null ? NONE : op == ENTRY ? s.node : s.name;
                case KIND: return a < 0 || a > 63 ? -10 : nodes[a].kind;
                case SIZE: return node(a).kind == 0 ? -10 : isDir(a) ? names(a) : nodes[a].size;
                case RIGHTS:
                    if (node(a).kind == 0) {
                        return -10;
                    }
                    return b == 0 ? nodes[a].owner : b == 1 && nodes[a].kind != 4 ? nodes[a].mode : NONE;
                case LINKS: return node(a).kind == 1 || node(a).kind == 3 ? nodes[a].links : -14;
                case PARENT: return isDir(a) ? nodes[a].parent : -10;
                case BLOCK: return block(a, b);
                case BYTE:
                    if (node(a).kind == 0 || isDir(a)) {
                        return -14;
                    }
                    if (nodes[a].kind != 4 && !may(a, 4)) {
                        return -20;
                    }
                    return b < 0 || b >= nodes[a].size ? NONE : nodes[a].bytes[b] & 255;
                case CHECK: return 0;
                case SCRUB: return sectors - freeBlocks();
                case SYNC:
                    int n = dirty.size();
                    commit();
                    return n;
                case CLEAN: return step();
                case WHERE: return a < 0 || a >= sectors ? -15 : live(a);
                case MARK: return a < 0 || a >= bands ? -15 : marks[a];
                default: throw new IllegalStateException("op " + op);
            }
        }

        int mode(int n, int bits) {
            Node f = node(n);
            if (f.kind == 0) {
                return -10;
            }
            if (f.kind == 4 || bits < 0 || bits > 63) {
                return -15;
            }
            if (who != 0 && who != f.owner) {
                return -20;
            }
            int was = f.mode;
            if (was != bits) {
                f.mode = bits;
                touchNode(n);
            }
            return was;
        }

        int give(int n, int user) {
            Node f = node(n);
            if (f.kind == 0) {
                return -10;
            }
            if (user < 0 || user > 15) {
                return -15;
            }
            if (who != 0) {
                return -20;
            }
            int was = f.owner;
            if (was != user) {
                f.owner = user;
                touchNode(n);
            }
            return was;
        }

        boolean feed(int... words) {
            if (tape.length + 20 > 1280) {
                return false;
            }
            int n = tape.length;
            tape = Arrays.copyOf(tape, n + 20);
            for (int i = 0; i < 20; i++) {
                tape[n + i] = (byte) (words[i / 4] >> 24 - 8 * (i % 4));
            }
            return true;
        }

        boolean end(int n) {
            if (n < 0 || n > tape.length) {
                return false;
            }
            tape = Arrays.copyOf(tape, n);
            return true;
        }
    }

    static final int MAKE = 0, DIR = 1, LAY = 2, POINT = 3, LINK = 4, PUT = 5, CUT = 6, DROP = 7, RENAME = 8, MODE = 9,
            GIVE = 10, RESTORE = 11, COUNT = 12, AS = 13, FIND = 14, WALK = 15, ENTRY = 16, NAME = 17, KIND = 18,
            SIZE = 19, RIGHTS = 20, LINKS = 21, PARENT = 22, BLOCK = 23, BYTE = 24, CHECK = 25, SCRUB = 26, SYNC = 27,
            CLEAN = 28, WHERE = 29, MARK = 30;
    static final String[] OPS = {"make", "dir", "lay", "point", "link", "put", "cut", "drop", "rename", "mode", "give",
        "restore", "count", "as", "find", "walk", "entry", "name", "kind", "size", "rights", "links", "parent", "block",
        "byteAt", "check", "scrub", "sync", "clean", "where", "mark"};

    static long call(ShingleHouse x, int op, int a, long p, int b, long q) {
        switch (op) {
            case MAKE: return x.make(a, p);
            case DIR: return x.dir(a, p);
            case LAY: return x.lay(a, p);
            case POINT: return x.point(a, p);
            case LINK: return x.link(a, p, b);
            case PUT: return x.put(a, b);
            case CUT: return x.cut(a, b);
            case DROP: return x.drop(a, p);
            case RENAME: return x.rename(a, p, b, q);
            case MODE: return x.mode(a, b);
            case GIVE: return x.give(a, b);
            case RESTORE: return x.restore();
            case COUNT: return x.count(a);
            case AS: return x.as(a);
            case FIND: return x.find(a, p);
            case WALK: return x.walk(a);
            case ENTRY: return x.entry(a, b);
            case NAME: return x.name(a, b);
            case KIND: return x.kind(a);
            case SIZE: return x.size(a);
            case RIGHTS: return x.rights(a, b);
            case LINKS: return x.links(a);
            case PARENT: return x.parent(a);
            case BLOCK: return x.block(a, b);
            case BYTE: return x.byteAt(a, b);
            case CHECK: return x.check();
            case SCRUB: return x.scrub();
            case SYNC: return x.sync();
            case CLEAN: return x.clean();
            case WHERE: return x.where(a);
            default: return x.mark(a);
        }
    }

    static final class Run {
        final int number;
        final Random random;
        final ShingleHouse house;
        final Model model;
        final long[] names;
        final int users;
        final int cuts;
        final int big;
        final boolean laying;
        final StringBuilder story = new StringBuilder();
        final int[] seen;
        int calls;
        boolean wrong;

        Run(int number, int[] seen) {
            this.number = number;
            this.seen = seen;
            random = new Random(number * 7919L + 17);
            int b = random.nextInt(8) + 2;
            int t = random.nextInt(4) == 0 ? random.nextInt(40) : random.nextInt(6) + 7;
            int s = random.nextInt(6);
            int c = random.nextInt(3) == 0 ? random.nextInt(300) : random.nextInt(40) + 50;
            house = new ShingleHouse(b, t, s, c);
            model = new Model(b, t, s, c);
            story.append("new(" + b + ", " + t + ", " + s + ", " + c + ")\n");
            int n = 2 + random.nextInt(random.nextBoolean() ? 60 : 8);
            names = new long[n];
            for (int i = 0; i < n; i++) {
                names[i] = randomName();
            }
            users = random.nextInt(3) == 0 ? 4 : 1;
            cuts = random.nextInt(3) == 0 ? 0 : 4 + random.nextInt(30);
            big = random.nextInt(3);
            laying = random.nextInt(4) == 0;
        }

        /** A run in which the power fails once, at WRITE n. */
        Run(int number, int[] seen, int n) {
            this.number = number;
            this.seen = seen;
            random = new Random(number);
            house = new ShingleHouse(5, 8, 2, 64);
            model = new Model(5, 8, 2, 64);
            names = new long[] {97, 98, 99, 100, 101, 102};
            users = 1;
            cuts = 0;
            big = 1;
            laying = number % 2 == 0;
            model.planned = n;
            house.power(n);
        }

        long randomName() {
            String letters = "ab019z-_.";
            long name = 0;
            int length = random.nextInt(8) == 0 ? 8 : 1 + random.nextInt(3);
            for (int i = 0; i < length; i++) {
                name |= (long) letters.charAt(random.nextInt(letters.length())) << 8 * i;
            }
            return name;
        }

        long someName() {
            if (random.nextInt(60) == 0) {
                return random.nextInt(3) == 0 ? random.nextLong() : random.nextInt(3) == 0 ? 0 : 0x610061L;
            }
            return names[random.nextInt(names.length)];
        }

        int someNode(int kind) {
            if (random.nextInt(20) == 0) {
                return random.nextInt(70) - 3;
            }
            int n = 0;
            int found = 0;
            for (int i = 0; i < 64; i++) {
                if (model.nodes[i].kind == kind && random.nextInt(++n) == 0) {
                    found = i;
                }
            }
            return found;
        }

        int someFile() {
            return someNode(random.nextInt(5) == 0 ? 3 : 1);
        }

        int somePlace(int size) {
            switch (random.nextInt(8)) {
                case 0: return random.nextInt(68400);
                case 1: return 64 * random.nextInt(1070);
                case 2: return random.nextInt(3000);
                case 3: return random.nextInt(100);
                case 4: return size;
                case 5: return Math.max(0, size - random.nextInt(200));
                case 6: return 64 * (44 + 32 * random.nextInt(32)) - random.nextInt(700);
                default: return random.nextInt(size + 10) - 2;
            }
        }

        void same(String what, long got, long due) {
            calls++;
            story.append(what + " = " + got + "\n");
            if (got != due) {
                wrong = true;
                story.append("   due is " + due + "\n");
            }
        }

        void ask(int op, int a, long p, int b, long q) {
            long due = model.call(op, a, p, b, q);
            long got = call(house, op, a, p, b, q);
            same(OPS[op] + "(" + a + ", " + p + ", " + b + ", " + q + ")", got, due);
            seen[op] |= due >= 0 ? 1 : due == OFF ? 2 : 1 << (int) -Math.max(due, -29);
        }

        void feed(byte[] bytes) {
            for (int at = 0; at < bytes.length; at += 20) {
                int[] w = new int[5];
                for (int i = 0; i < 20 && at + i < bytes.length; i++) {
                    w[i / 4] |= (bytes[at + i] & 255) << 24 - 8 * (i % 4);
                }
                same("feed(" + Arrays.toString(w) + ")", house.feed(w[0], w[1], w[2], w[3], w[4]) ? 1 : 0,
                    model.feed(w) ? 1 : 0);
            }
            end(bytes.length);
        }

        void end(int n) {
            same("end(" + n + ")", house.end(n) ? 1 : 0, model.end(n) ? 1 : 0);
        }

        void feedBytes(int most) {
            byte[] bytes = new byte[random.nextInt(most + 1)];
            random.nextBytes(bytes);
            feed(bytes);
        }

        void feedPath() {
            StringBuilder s = new StringBuilder();
            int parts = random.nextInt(6);
            for (int i = 0; i < parts; i++) {
                int what = random.nextInt(14);
                s.append(what == 0 ? "" : what == 1 ? "." : what == 2 ? ".." : what == 3 ? "Q" : Model.text(someName()));
                if (i + 1 < parts || random.nextInt(6) == 0) {
                    s.append('/');
                }
            }
            if (random.nextInt(4) == 0) {
                s.insert(0, '/');
            }
            byte[] bytes = s.toString().getBytes(java.nio.charset.StandardCharsets.ISO_8859_1);
            feed(random.nextInt(5) == 0 ? bytes : Arrays.copyOf(bytes, Math.min(bytes.length, 40)));
        }

        void power() {
            int n = random.nextInt(10) == 0 ? -1 - random.nextInt(3) : random.nextInt(random.nextBoolean() ? 30 : 300);
            model.planned = Math.max(n, -1);
            same("power(" + n + ")", house.power(n) ? 1 : 0, model.on ? 1 : 0);
        }

        void layMore() {
            int laid = someNode(3);
            switch (random.nextInt(6)) {
                case 0: feedBytes(60); ask(LAY, someNode(2), someName(), 0, 0); break;
                case 1: case 2: feedBytes(60); ask(PUT, laid, 0, random.nextInt(model.node(laid).size + 1), 0); break;
                case 3: ask(SYNC, 0, 0, 0, 0); break;
                case 4: ask(DROP, 0, someName(), 0, 0); break;
                default: ask(BYTE, laid, 0, random.nextInt(model.node(laid).size + 1), 0); break;
            }
        }

        void change() {
            if (laying && random.nextBoolean()) {
                layMore();
                return;
            }
            int dir = someNode(2);
            switch (random.nextInt(20)) {
                case 0: case 1: case 2: ask(MAKE, dir, someName(), 0, 0); break;
                case 3: case 4: ask(DIR, dir, someName(), 0, 0); break;
                case 5: feedBytes(60); ask(LAY, dir, someName(), 0, 0); break;
                case 6: feedPath(); ask(POINT, dir, someName(), 0, 0); break;
                case 7: ask(LINK, dir, someName(), someFile(), 0); break;
                case 8: case 9: case 10: case 11: {
                    feedBytes(big == 0 ? 100 : big == 1 ? 500 : 1280);
                    int f = someFile();
                    ask(PUT, f, 0, somePlace(model.node(f).size), 0);
                    break;
                }
                case 12: case 13: {
                    int f = someFile();
                    ask(CUT, f, 0, somePlace(model.node(f).size), 0);
                    break;
                }
                case 14: case 15: ask(DROP, dir, someName(), 0, 0); break;
                case 16: case 17: ask(RENAME, dir, someName(), someNode(2), someName()); break;
                case 18: ask(MODE, someNode(random.nextInt(5)), 0, random.nextInt(68) - 2, 0); break;
                default: ask(GIVE, someNode(random.nextInt(5)), 0, random.nextInt(18) - 1, 0); break;
            }
        }

        void look() {
            int n = someNode(random.nextInt(5));
            switch (random.nextInt(16)) {
                case 0: ask(FIND, someNode(2), someName(), 0, 0); break;
                case 1: feedPath(); ask(WALK, someNode(2), 0, 0, 0); break;
                case 2: ask(ENTRY, someNode(2), 0, random.nextInt(12) - 1, 0); break;
                case 3: ask(NAME, someNode(2), 0, random.nextInt(12) - 1, 0); break;
                case 4: ask(KIND, n, 0, 0, 0); break;
                case 5: ask(SIZE, n, 0, 0, 0); break;
                case 6: ask(RIGHTS, n, 0, random.nextInt(4) - 1, 0); break;
                case 7: ask(LINKS, n, 0, 0, 0); break;
                case 8: ask(PARENT, n, 0, 0, 0); break;
                case 9: ask(BLOCK, n, 0, random.nextInt(3) == 0 ? random.nextInt(40) - 36 : random.nextInt(1070), 0);
                    break;
                case 10: case 11: {
                    int f = someFile();
                    ask(BYTE, f, 0, random.nextInt(model.node(f).size + 4) - 2, 0);
                    break;
                }
                case 12: ask(SCRUB, 0, 0, 0, 0); break;
                case 13: ask(WHERE, random.nextInt(model.sectors + 2) - 1, 0, 0, 0); break;
                case 14: ask(MARK, random.nextInt(10) - 1, 0, 0, 0); break;
                default: ask(CHECK, 0, 0, 0, 0); break;
            }
        }

        int wildInt() {
            int[] some = {Integer.MIN_VALUE, Integer.MIN_VALUE + 3, -100, -1, 0, 1, 63, 64, 1068, 68352, 68353,
                Integer.MAX_VALUE - 1280, Integer.MAX_VALUE};
            return random.nextInt(3) == 0 ? random.nextInt() : some[random.nextInt(some.length)];
        }

        /** Any call with anything. */
        void wild() {
            int node = random.nextBoolean() ? wildInt() : someNode(random.nextInt(5));
            long name = random.nextBoolean() ? random.nextLong() : someName();
            int other = random.nextBoolean() ? wildInt() : someNode(random.nextInt(5));
            ask(random.nextInt(OPS.length), node, name, other, random.nextBoolean() ? random.nextLong() : someName());
            if (random.nextInt(4) == 0) {
                end(wildInt());
            }
        }

        void act() {
            int what = random.nextInt(100);
            if (random.nextInt(25) == 0) {
                wild();
                return;
            }
            if (!model.on && random.nextInt(3) > 0) {
                if (random.nextInt(3) == 0) {
                    power();
                }
                ask(RESTORE, 0, 0, 0, 0);
            } else if (what < 55) {
                change();
            } else if (what < 75) {
                look();
            } else if (what < 83) {
                ask(SYNC, 0, 0, 0, 0);
            } else if (what < 86) {
                for (int i = random.nextInt(20); i >= 0; i--) {
                    ask(CLEAN, 0, 0, 0, 0);
                }
            } else if (what < 90) {
                ask(COUNT, random.nextInt(18) - 1, 0, 0, 0);
            } else if (what < 93) {
                ask(AS, users == 1 ? 0 : random.nextInt(9) == 0 ? random.nextInt(20) - 2 : random.nextInt(users), 0, 0, 0);
            } else if (what < 94) {
                ask(RESTORE, 0, 0, 0, 0);
            } else if (what < 95) {
                end(random.nextInt(30) - 3);
            } else if (random.nextInt(40) < cuts) {
                power();
            }
        }

        /** All that can be seen of the whole at once. */
        void compareAll() {
            for (int i = -1; i <= 16; i++) {
                ask(COUNT, i, 0, 0, 0);
            }
            ask(CHECK, 0, 0, 0, 0);
            ask(SCRUB, 0, 0, 0, 0);
            ask(AS, 0, 0, 0, 0);
            for (int x = 0; x < model.sectors; x++) {
                ask(WHERE, x, 0, 0, 0);
            }
            for (int b = 0; b < model.bands; b++) {
                ask(MARK, b, 0, 0, 0);
            }
            for (int n = 0; n < 64; n++) {
                for (int op : new int[] {KIND, SIZE, LINKS, PARENT}) {
                    ask(op, n, 0, 0, 0);
                }
                ask(RIGHTS, n, 0, 0, 0);
                ask(RIGHTS, n, 0, 1, 0);
                for (int k = -36; k < 1070 && model.node(n).kind != 0; k++) {
                    ask(BLOCK, n, 0, k, 0);
                }
                for (int k = 0; k <= 48 && model.isDir(n); k++) {
                    ask(ENTRY, n, 0, k, 0);
                    ask(NAME, n, 0, k, 0);
                }
                for (int k = 0; k < model.node(n).size + 1 && !model.isDir(n); k++) {
                    ask(BYTE, n, 0, k, 0);
                }
            }
        }

        boolean isRight() {
            while (calls < CALLS && !wrong) {
                act();
            }
            if (!wrong && number % 10 == 0) {
                // What lies behind the 512th call is free in the document; this class answers on all the same.
                compareAll();
                if (!model.on) {
                    model.planned = NONE;
                    house.power(-1);
                }
                ask(RESTORE, 0, 0, 0, 0);
                compareAll();
            }
            if (wrong) {
                String[] lines = story.toString().split("\n");
                System.out.println("run " + number + ", the last calls:");
                for (int i = Math.max(0, lines.length - 12); i < lines.length; i++) {
                    System.out.println("  " + lines[i]);
                }
            }
            return !wrong;
        }
    }

    /** The same calls over and over, with the power failing at every one of their WRITES in turn. */
    static int failEverywhere(int number, int[] seen) {
        for (int n = 0; n < 100000; n++) {
            Run run = new Run(number, seen, n);
            if (!run.isRight()) {
                System.out.println("with the power failing at WRITE " + n);
                return 1;
            }
            if (run.model.planned != NONE) {
                return 0;
            }
        }
        return 1;
    }

    public static void main(String[] args) {
        int bad = 0;
        int runs = args.length > 0 ? Integer.parseInt(args[0]) : RUNS;
        int[] seen = new int[OPS.length];
        for (int i = 0; i < runs && bad < 5; i++) {
            if (!new Run(i, seen).isRight()) {
                bad++;
            }
        }
        for (int number = 1; number <= 4; number++) {
            bad += failEverywhere(number, seen);
        }
        if (args.length > 0) {
            for (int i = 0; i < OPS.length; i++) {
                StringBuilder s = new StringBuilder(OPS[i] + ":");
                for (int k = 0; k < 30; k++) {
                    if ((seen[i] >> k & 1) != 0) {
                        s.append(k == 0 ? " ok" : k == 1 ? " off/none" : " -" + k);
                    }
                }
                System.out.println(s);
            }
        }
        System.out.println(bad == 0 ? runs + " runs are as the model's" : bad + " runs are not as the model's");
        if (bad != 0) {
            System.exit(1);
        }
    }
}
