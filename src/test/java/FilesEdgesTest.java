/** Part III of the document, FILES with RESTORE, sentence by sentence. */
public final class FilesEdgesTest extends Edges {
    @Sentence(of = "III", is = "SECTORS of THE VOLUME, from 0 on: 80 of THE JOURNAL; THE MAP, L / 512 rounded up; 64 of "
        + "NODES 0 .. 63, one each; from D = 144 + that many on: BLOCKS, numbered as their SECTORS.")
    static void layout() {
        int[][] rows = {{4, 8, 1}, {8, 8, 1}, {8, 9, 2}, {4, 32, 2}, {5, 26, 3}, {6, 32, 3}, {7, 28, 4}, {8, 32, 4}};
        for (int[] row : rows) {
            House h = new House(row[0], row[1], 1, 256);
            int all = 8 * row[0] * row[1];
            int maps = row[2];
            due("free BLOCKS", h.count(8), all - 144 - maps);
            due("read", h.scrub(), 144 + maps);
            h.files(4);
            due("the first BLOCK", h.block(0, 0), 144 + maps);
            h.sync();
            due("THE MAP", h.where(80) >= 0, true);
            due("none behind the first of THE MAP", maps == 1 || h.where(81) == NONE, true);
            due("the root's NODE", h.where(80 + maps) >= 0, true);
            due("NODE 4", h.where(84 + maps) >= 0, true);
            due("NODE 5", h.where(85 + maps), NONE);
            due("the last of NODES", h.where(143 + maps), NONE);
            due("the first BLOCK", h.where(144 + maps) >= 0, true);
        }
    }

    @Sentence(of = "III", is = "THE MAP has a bit for each SECTOR of THE VOLUME, 512 in each of its SECTORS; those of "
        + "BLOCKS that something uses are set, and all below D.")
    static void map() {
        House h = new House(8, 9, 1, 256);
        h.lay(0, "l", "a");
        due("a band of SECTORS 504 .. 575", h.block(1, 0), 504);
        due("DIRTY: two NODES, SLOTS, two of THE MAP", h.count(7), 5);
        h.sync();
        due("its first SECTOR", h.where(80) >= 0, true);
        due("its second SECTOR", h.where(81) >= 0, true);
        h.lay(0, "m", "a");
        due("a band of SECTORS 432 .. 503", h.block(2, 71), 503);
        due("DIRTY: its NODE, SLOTS, one of THE MAP", h.count(7), 3);
        House s = new House(8, 8, 1, 256);
        s.lay(0, "l", "a");
        due("a band of SECTORS 448 .. 511", s.block(1, 63), 511);
        due("DIRTY: two NODES, SLOTS, THE MAP", s.count(7), 4);
        due("free", s.count(8), 512 - 145 - 65);
        due("none below D is free", s.scrub(), 145 + 65);
        // 520 SECTORS: neither a multiple of 512 nor of 64.
        House o = new House(5, 13, 1, 256);
        o.lay(0, "l", "a");
        due("its last SECTOR", o.block(1, 103), 519);
        due("free", o.count(8), 520 - 146 - 105);
        due("DIRTY: two NODES, SLOTS, two of THE MAP", o.count(7), 5);
    }

    @Sentence(of = "III", is = "A NODE is free, a FILE, a DIRECTORY, a LAID FILE, or a POINTER. NODE 0 is the root, a "
        + "DIRECTORY.")
    static void nodes() {
        House h = House.kinds();
        int[] kinds = {2, 1, 2, 3, 4, 0};
        for (int node = 0; node < kinds.length; node++) {
            due("NODE " + node, h.kind(node), kinds[node]);
        }
        due("the last one", h.kind(63), 0);
        House full = House.small().files(47);
        full.dir(0, "d");
        for (int i = 0; i < 15; i++) {
            due("NODE " + (49 + i), full.make(48, "g" + i), 49 + i);
        }
        due("the last one", full.kind(63), 1);
        due("none is left", full.make(48, "more"), -16);
    }

    @Sentence(of = "III", is = "A FILE has a size, at most 68352 bytes, in PIECES of 64 (the last one perhaps shorter), "
        + "each of which has a BLOCK or none (a HOLE: zeros):")
    static void fileSize() {
        House h = House.small();
        h.make(0, "a");
        due("beyond the last byte", h.put(1, 68352, "z"), -15);
        due("over the last byte", h.put(1, 68351, "zz"), -15);
        due("the last byte", h.put(1, 68351, "z"), 1);
        due("size", h.size(1), 68352);
        due("the byte", h.byteAt(1, 68351), 'z');
        due("behind it", h.byteAt(1, 68352), NONE);
        due("a HOLE", h.block(1, 0), NONE);
        due("zeros", h.byteAt(1, 0), 0);
        due("zeros in its own PIECE", h.byteAt(1, 68350), 0);
        due("the last PIECE", h.block(1, 1067) > 0, true);
        due("no PIECE", h.block(1, 1068), NONE);
        h.cut(1, 65);
        due("a last PIECE of one byte", h.size(1), 65);
        due("behind it", h.byteAt(1, 65), NONE);
    }

    @Sentence(of = "III", is = "PIECES 0 .. 11 are told by its NODE, 12 .. 43 by its INDEX, a BLOCK; then 32 by each of "
        + "up to 32 INDEXES more, these by its DOUBLE, a BLOCK.")
    static void pieces() {
        int[][] rows = {{0, 0, 0, NONE}, {11, 0, 0, NONE}, {12, 1, 0, NONE}, {43, 1, 0, NONE}, {44, 0, 1, 0},
            {75, 0, 1, 0}, {76, 0, 1, 1}, {107, 0, 1, 1}, {1035, 0, 1, 30}, {1036, 0, 1, 31}, {1067, 0, 1, 31}};
        for (int[] row : rows) {
            House h = House.small();
            h.make(0, "a");
            h.put(1, 64 * row[0], "z");
            due("INDEX with PIECE " + row[0], h.block(1, -1) > 0, row[1] == 1);
            due("DOUBLE with PIECE " + row[0], h.block(1, -2) > 0, row[2] == 1);
            for (int i = 0; i <= 32; i++) {
                due("INDEX " + i + " with PIECE " + row[0], h.block(1, -3 - i) > 0, i == row[3]);
            }
            due("BLOCKS: SLOTS, and these", h.count(8), 110 - 1 - row[1] - 2 * row[2]);
            due("the byte", h.byteAt(1, 64 * row[0]), 'z');
        }
    }

    @Sentence(of = "III", is = "A DIRECTORY has up to 12 BLOCKS of four SLOTS, each free or with a NAME and a NODE; and "
        + "its PARENT.")
    static void directory() {
        House h = House.small();
        for (int i = 0; i < 48; i++) {
            due("make " + i, h.make(0, "f" + i), i + 1);
            due("BLOCKS", h.block(0, i / 4) > 0 && h.block(0, i / 4 + 1) == NONE, true);
        }
        due("48 NAMES", h.size(0), 48);
        due("no 13th BLOCK", h.make(0, "more"), -16);
        due("though a NODE and a BLOCK are free", h.count(9) > 0 && h.count(8) > 0, true);
        h.drop(0, "f20");
        due("a free SLOT", h.make(0, "more"), 21);
        due("no other", h.make(0, "evenmore"), -16);
        House p = House.small();
        p.dir(0, "d");
        p.dir(1, "e");
        due("PARENT", p.parent(2), 1);
    }

    @Sentence(of = "III", is = "A LAID FILE has a band (size 512 T).")
    static void laid() {
        for (int t : new int[] {8, 9, 32}) {
            House h = new House(4, t, 1, 64);
            int free = h.count(8);
            due("lay", h.lay(0, "l", "abc"), 1);
            due("size", h.size(1), 512 * t);
            due("the last byte", h.byteAt(1, 512 * t - 1), "abc".charAt((512 * t - 1) % 3));
            due("behind it", h.byteAt(1, 512 * t), NONE);
            due("BLOCKS: SLOTS and the band", h.count(8), free - 1 - 8 * t);
        }
    }

    @Sentence(of = "III", is = "A POINTER has a TEXT of 1 to 40 bytes, in its NODE.")
    static void pointer() {
        for (int n = 0; n <= 41; n++) {
            House h = House.small();
            h.make(0, "a");
            h.sync();
            due("TEXT of " + n, h.point(0, "p", "0123456789".repeat(5).substring(0, n)), n < 1 || n > 40 ? -15 : 2);
            if (n >= 1 && n <= 40) {
                due("size", h.size(2), n);
                due("the last byte", h.byteAt(2, n - 1), '0' + (n - 1) % 10);
                due("behind it", h.byteAt(2, n), NONE);
                due("DIRTY: its NODE, SLOTS", h.count(7), 2);
            }
        }
    }

    @Sentence(of = "III", is = "FILES and LAID FILES have LINKS: how many SLOTS have them (255 at most).")
    static void links() {
        House h = new House(8, 8, 1, 256);
        h.lay(0, "l", "a");
        for (int i = 0; i < 6; i++) {
            h.dir(0, "d" + i);
        }
        for (int i = 0; i < 254; i++) {
            due("LINKS", h.link(2 + i / 48, "l" + i, 1), i + 2);
        }
        due("255", h.links(1), 255);
        due("no more", h.link(7, "more", 1), -15);
        due("still", h.links(1), 255);
        h.drop(0, "l");
        due("254", h.links(1), 254);
        due("one more again", h.link(7, "more", 1), 255);
        due("check", h.check(), 0);
    }

    @Sentence(of = "III", is = "All have an OWNER (0 .. 15; WHO made it; the root's is 0), all but POINTERS a MODE "
        + "(0 .. 63):")
    static void owner() {
        House h = House.small();
        due("the root's", h.rights(0, 0), 0);
        h.as(15);
        h.make(0, "f");
        h.dir(0, "d");
        h.lay(0, "l", "a");
        h.point(0, "p", "a");
        for (int node = 1; node <= 4; node++) {
            due("OWNER of " + node, h.rights(node, 0), 15);
            due("MODE of " + node, h.rights(node, 1) == NONE, node == 4);
        }
        due("the root's still", h.rights(0, 0), 0);
        h.as(0);
        for (int user = -1; user <= 16; user++) {
            due("OWNER " + user, h.give(1, user) == -15, user < 0 || user > 15);
        }
        for (int bits = -1; bits <= 64; bits++) {
            due("MODE " + bits, h.mode(1, bits) == -15, bits < 0 || bits > 63);
        }
    }

    @Sentence(of = "III", is = "what its OWNER may, READ 32, WRITE 16, GO 8, and what others may, 4, 2, 1;")
    static void rights() {
        for (int bits = 0; bits < 64; bits++) {
            House h = House.owned();
            h.put(2, 0, "a");
            h.mode(2, bits);
            h.mode(1, bits);
            for (int user = 3; user <= 4; user++) {
                int may = user == 3 ? bits / 8 : bits % 8;
                h.as(user);
                due("READ a FILE with " + bits, h.byteAt(2, 0), (may & 4) != 0 ? 'a' : -20);
                due("READ a DIRECTORY with " + bits, h.entry(1, 0), (may & 4) != 0 ? 2 : -20);
                due("WRITE a FILE with " + bits, h.cut(2, 1), (may & 2) != 0 ? 0 : -20);
                due("GO with " + bits, h.find(1, "f"), (may & 1) != 0 ? 2 : -20);
                due("WRITE and GO with " + bits, h.make(1, "f"), (may & 3) == 3 ? -13 : -20);
            }
        }
    }

    @Sentence(of = "III", is = "of a FILE, LAID FILE 52 at first, of a DIRECTORY 61, the root 63.")
    static void firstModes() {
        House h = House.kinds();
        int[] modes = {63, 52, 61, 52, NONE, -10};
        for (int node = 0; node < modes.length; node++) {
            due("MODE of NODE " + node, h.rights(node, 1), modes[node]);
        }
    }

    @Sentence(of = "III", is = "WHO 0 may all.")
    static void whoZero() {
        House h = House.owned();
        h.put(2, 0, "a");
        h.as(0);
        h.mode(1, 0);
        h.mode(2, 0);
        due("READ", h.byteAt(2, 0), 'a');
        due("WRITE", h.put(2, 0, "b"), 1);
        due("READ a DIRECTORY", h.entry(1, 0), 2);
        due("GO", h.find(1, "f"), 2);
        due("WALK", h.walk(0, "d/f"), 2);
        due("make", h.make(1, "g"), 3);
        due("rename", h.rename(1, "g", 0, "g"), 3);
        due("drop", h.drop(1, "f"), 1);
        due("mode", h.mode(1, 1), 0);
        due("give", h.give(1, 1), 3);
        // As an OWNER, too: its own bits forbid it nothing.
        h.mode(3, 0);
        due("its own", h.put(3, 0, "c"), 1);
        due("its own", h.byteAt(3, 0), 'c');
    }

    @Sentence(of = "III", is = "A NAME: a long, 1 to 8 bytes from the lowest on: a .. z, 0 .. 9, - _ . (the bytes above "
        + "them 0).")
    static void names() {
        House h = House.small();
        House eighth = House.small();
        for (int b = 0; b < 256; b++) {
            boolean good = b >= 'a' && b <= 'z' || b >= '0' && b <= '9' || b == '-' || b == '_' || b == '.';
            due("byte " + b, h.find(0, b), good ? -12 : -11);
            // Behind seven others 0 is none of the NAME's bytes, and all that it has are right.
            due("eighth byte " + b, eighth.find(0, House.n("abcdefg") | (long) b << 56), good || b == 0 ? -12 : -11);
        }
        House m = House.small();
        String all = "az09-_.z";
        for (int n = 1; n <= 8; n++) {
            due("of " + n + " bytes", m.make(0, all.substring(0, n)), n);
            due("found", m.find(0, all.substring(0, n)), n);
        }
        due("0 between", m.make(0, House.n("a\0c")), -11);
        due("0 first", m.make(0, House.n("\0bc")), -11);
        due("0", m.make(0, 0), -11);
    }

    @Sentence(of = "III", is = "DIRTY are SECTORS that were changed and not committed: in memory alone.")
    static void dirty() {
        House h = House.small();
        due("at first", h.count(7), 0);
        h.make(0, "a");
        due("changed", h.count(7), 4);
        due("no WRITE", h.writes(), 0);
        h.sync();
        due("committed", h.count(7), 0);
        h.mode(0, 1);
        due("changed", h.count(7), 1);
        h.mode(0, 2);
        due("changed twice", h.count(7), 1);
        h.restore();
        due("forgotten", h.count(7), 0);
        due("as committed", h.rights(0, 1), 63);
    }

    @Sentence(of = "III", is = "To change a NODE makes its SECTOR DIRTY, to take or give back a BLOCK that of THE MAP, to "
        + "write bytes or SLOTS their BLOCK, to change what an INDEX, a DOUBLE tells this BLOCK.")
    static void whatIsDirty() {
        House h = House.large();
        h.make(0, "a");
        h.put(1, 0, "a");
        h.put(1, 64 * 12, "a");
        h.put(1, 64 * 44, "a");
        h.put(1, 64 * 800, "a");
        h.sync();
        h.mode(1, 1);
        due("a NODE", h.sync(), 1);
        h.put(1, 0, "b");
        due("bytes: a BLOCK", h.sync(), 1);
        h.make(0, "b");
        due("SLOTS: a BLOCK; a NODE", h.sync(), 2);
        h.put(1, 64, "b");
        due("a BLOCK taken: it, THE MAP, the NODE that tells it", h.sync(), 3);
        h.put(1, 64 * 13, "b");
        due("through the INDEX: it, THE MAP, the INDEX", h.sync(), 3);
        h.put(1, 64 * 45, "b");
        due("through INDEX 0: it, THE MAP, INDEX 0", h.sync(), 3);
        h.put(1, 64 * 76, "b");
        due("through INDEX 1: it, THE MAP, INDEX 1, the DOUBLE", h.sync(), 4);
        h.cut(1, 64 * 77);
        due("given back through the DOUBLE: THE MAP, the DOUBLE, the NODE", h.sync(), 3);
        h.cut(1, 64 * 45);
        due("given back through INDEX 0 and all of INDEX 1: THE MAP, INDEX 0, DOUBLE, NODE", h.sync(), 4);
    }

    @Sentence(of = "III", is = "A BLOCK that is given back is DIRTY no more.")
    static void dirtyNoMore() {
        House h = House.small();
        h.make(0, "a");
        h.sync();
        h.put(1, 0, 640);
        due("ten BLOCKS, THE MAP, the NODE", h.count(7), 12);
        h.cut(1, 64);
        due("nine less", h.count(7), 3);
        h.cut(1, 0);
        due("ten less", h.count(7), 2);
        h.put(1, 64 * 44, "a");
        due("DOUBLE, INDEX, a BLOCK", h.count(7), 5);
        h.cut(1, 0);
        due("none of them", h.count(7), 2);
        h.sync();
        h.lay(0, "l", "a");
        h.put(2, 0, "abc");
        due("two NODES less one, SLOTS, THE MAP, a BLOCK of the band", h.count(7), 4);
        h.drop(0, "l");
        due("none of the band", h.count(7), 3);
    }

    @Sentence(of = "III", is = "Taken is always the lowest BLOCK that is free, the lowest NODE that is free.")
    static void lowest() {
        House h = House.small().files(4);
        for (int node = 1; node <= 4; node++) {
            h.put(node, 0, "a");
            due("BLOCK", h.block(node, 0), 145 + node);
        }
        h.drop(0, "f2");
        h.drop(0, "f0");
        due("the lower NODE of two", h.make(0, "g"), 1);
        due("the other one", h.make(0, "h"), 3);
        due("the next one", h.make(0, "i"), 5);
        due("the lower BLOCK of two: SLOTS", h.block(0, 1), 146);
        h.put(5, 0, 128);
        due("the other one", h.block(5, 0), 148);
        due("the next one", h.block(5, 1), 150);
        h.lay(0, "l", "a");
        due("from the highest band none is taken till then", h.block(6, 0), 192);
        lowestToTheLast();
    }

    /** 520 SECTORS: bands 2 and 3 are laid, BLOCKS 146 .. 207 and 416 .. 519 taken one by one. */
    private static void lowestToTheLast() {
        House h = new House(5, 13, 1, 256);
        h.lay(0, "l4", "a");
        h.lay(0, "l3", "a");
        h.lay(0, "l2", "a");
        h.drop(0, "l4");
        h.sync();
        for (int i = 0; i < 4; i++) {
            h.make(0, "f" + i);
        }
        int[] nodes = {1, 4, 5, 6};
        int next = 148;
        for (int i = 0; i < 4; i++) {
            for (int piece = 1; piece < 44; piece += 2) {
                h.feed(1, 2, 3, 4, 5);
                h.put(nodes[i], 64 * piece - 10);
            }
        }
        for (int i = 0; i < 4; i++) {
            due("the INDEX of " + i, h.block(nodes[i], -1), later(next + 45 * i + 12));
            due("the last PIECE of " + i, h.block(nodes[i], i < 3 ? 43 : 27), later(next + 45 * i + (i < 3 ? 44 : 28)));
        }
        due("none is free", h.count(8), 0);
        due("the last one", h.block(6, 27), 519);
        due("no more", h.block(6, 28), NONE);
        due("check", h.check(), 0);
        h.sync();
        due("the first of THE MAP", h.where(80) >= 0, true);
        due("the second of THE MAP", h.where(81) >= 0, true);
        h.restore();
        due("none is free", h.count(8), 0);
        due("check", h.check(), 0);
        due("the last of the first 512 of THE MAP, and all behind", h.cut(6, 64 * 19), 9);
        due("the one ahead is used still", h.block(6, 18), 510);
        due("free", h.count(8), 9);
        due("check", h.check(), 0);
        h.put(6, 64 * 19, "x");
        due("the lowest", h.block(6, 19), 511);
    }

    /** The BLOCKS from 208 on are laid, up to 415. */
    private static int later(int x) {
        return x < 208 ? x : x + 208;
    }

    @Sentence(of = "III", is = "TO COMMIT: if nothing is DIRTY nothing happens.")
    static void nothingToCommit() {
        House h = House.small();
        h.power(0);
        due("sync", h.sync(), 0);
        due("no WRITE", h.writes(), 0);
        due("no COMMIT", h.count(10), 0);
        due("the power is on", h.power(-1), true);
        h.make(0, "a");
        h.sync();
        due("again", h.sync(), 0);
        due("COMMITS", h.count(10), 1);
        due("THE JOURNAL tells what it told", h.restore(), 4);
    }

    /** The FILE f0 (NODE 1) has nine BLOCKS; so many SECTORS are DIRTY, at most 40 NODES and then BLOCKS of that FILE. */
    private static House dirtyOf(int n) {
        House h = House.large();
        h.make(0, "f0");
        h.put(1, 0, "y".repeat(576));
        for (int i = 1; i <= 46; i++) {
            h.make(0, "f" + i);
        }
        h.sync();
        h.cleanAll();
        for (int i = 0; i < Math.min(n, 40); i++) {
            h.mode(2 + i, i);
        }
        if (n > 40) {
            h.put(1, 0, 64 * (n - 40));
        }
        return h;
    }

    @Sentence(of = "III", is = "Else, n being DIRTY: n / 24 (rounded up) SECTORS that tell which, the n themselves, and "
        + "one that ends it, are WRITTEN to THE JOURNAL (SECTORS 0, 1, 2, ..);")
    static void journal() {
        int[][] rows = {{1, 1}, {2, 1}, {23, 1}, {24, 1}, {25, 2}, {40, 2}, {48, 2}, {49, 3}};
        for (int[] row : rows) {
            int n = row[0];
            House h = dirtyOf(n);
            int before = h.count(0);
            due("DIRTY", h.sync(), n);
            int last = row[1] + n;
            due("ENTRIES for " + n, h.count(0) - before, last + 1 + n);
            due("THE JOURNAL's first", h.where(0), before);
            due("THE JOURNAL's last", h.where(last), before + last);
            due("none behind it", h.where(last + 1), NONE);
        }
    }

    @Sentence(of = "III", is = "Then, if what was COMMITTED last is still told by THE JOURNAL (no SECTOR of THE JOURNAL "
        + "was WRITTEN since), its SECTORS are WRITTEN to their own once more, the lowest first.")
    static void journalTellsAll() {
        int[][] rows = {{1, 1}, {23, 1}, {24, 1}, {25, 2}, {40, 2}, {48, 2}, {49, 3}};
        for (int[] row : rows) {
            int n = row[0];
            House h = dirtyOf(n);
            h.power(row[1] + n + 1);
            due("CUT ahead of the first that is WRITTEN to its own", h.sync(), OFF);
            due("all of them", h.restore(), n);
            for (int i = 0; i < 45; i++) {
                due("MODE " + i + " of " + n, h.rights(2 + i, 1), i < Math.min(n, 40) ? i : 52);
            }
            for (int i = 0; i < 9; i++) {
                due("BLOCK " + i + " of " + n, h.byteAt(1, 64 * i), i < n - 40 ? 'x' : 'y');
            }
            due("check", h.check(), 0);
        }
    }

    @Sentence(of = "III", is = "when this last one is WRITTEN (its ENTRY done), it is COMMITTED.")
    static void committed() {
        for (int n = 4; n <= 7; n++) {
            House h = House.small();
            h.make(0, "a");
            h.power(n);
            due("CUT", h.sync(), OFF);
            due("COMMITTED with " + n + " of ten done", h.count(10), n < 6 ? 0 : 1);
            due("told", h.restore(), n < 6 ? 0 : 4);
            due("the tree", h.find(0, "a"), n < 6 ? -12 : 1);
        }
    }

    @Sentence(of = "III", is = "Then the n are WRITTEN to their own SECTORS, the lowest first; then nothing is DIRTY.")
    static void ownSectors() {
        House h = House.small();
        h.make(0, "a");
        h.put(1, 0, 128);
        due("sync", h.sync(), 6);
        int[] sectors = {80, 81, 82, 145, 146, 147};
        for (int i = 0; i < sectors.length; i++) {
            due("SECTOR " + sectors[i], h.where(sectors[i]), 8 + i);
        }
        due("ENTRIES", h.count(0), 14);
        due("DIRTY", h.count(7), 0);
    }

    private static final Asks[] CHANGES = {
        h -> h.make(64, 97), h -> h.dir(64, 97), h -> h.lay(64, 97), h -> h.point(64, 97), h -> h.link(64, 97, 1),
        h -> h.put(64, 0), h -> h.cut(64, 0), h -> h.rename(64, 97, 0, 97), h -> h.drop(64, 97), h -> h.mode(64, 0),
        h -> h.give(64, 0)};
    private static final Asks[] LOOKS = {
        h -> h.feed(1, 2, 3, 4, 5) ? 1 : 0, h -> h.end(1) ? 1 : 0, h -> h.as(1), h -> h.find(0, 97), h -> h.walk(0),
        h -> h.entry(0, 0), h -> h.name(0, 0), h -> h.kind(0), h -> h.size(0), h -> h.rights(0, 0), h -> h.links(1),
        h -> h.parent(0), h -> h.block(0, 0), h -> h.byteAt(1, 0), h -> h.check(), h -> h.scrub(), h -> h.clean(),
        h -> h.power(-1) ? 1 : 0, h -> h.where(0), h -> h.mark(0), h -> h.count(7)};

    @Sentence(of = "III", is = "Calls that change files (make, dir, lay, point, link, put, cut, rename, drop, mode, give) "
        + "COMMIT first if more than 40 SECTORS are DIRTY, whatever they answer then.")
    static void commitFirst() {
        for (int i = 0; i < CHANGES.length; i++) {
            for (int n = 40; n <= 41; n++) {
                House h = House.large().dirtyNodes(n);
                int commits = h.count(10);
                due("DIRTY", h.count(7), n);
                due("refused, call " + i, CHANGES[i].of(h), i == 5 || i == 6 ? -14 : -10);
                due("DIRTY behind it", h.count(7), n == 40 ? 40 : 0);
                due("COMMITS", h.count(10), n == 40 ? commits : commits + 1);
            }
        }
        House l = House.large().dirtyNodes(41);
        int commits = l.count(10);
        for (int i = 0; i < LOOKS.length; i++) {
            LOOKS[i].of(l);
            due("other call " + i, l.count(7), 41);
        }
        due("COMMITS", l.count(10), commits);
        House h = House.large().dirtyNodes(41);
        due("what is changed then", h.make(0, "new"), 42);
        due("is DIRTY alone", h.count(7), 2);
        House c = House.large().dirtyNodes(41);
        c.power(3);
        due("CUT in the COMMIT ahead", c.put(1, 0, "a"), OFF);
        due("the tape is used up", c.end(1), false);
    }

    @Sentence(of = "III", is = "RESTORE (the power comes back; if it was on: it fails now, between two WRITES):")
    static void restore() {
        House h = House.off();
        due("comes back", h.restore(), 0);
        due("on", h.power(-1), true);
        h.make(0, "a");
        h.sync();
        h.make(0, "b");
        h.cleanTimes(3);
        due("it was on", h.restore(), 4);
        due("on", h.power(-1), true);
        due("forgotten", h.find(0, "b"), -12);
        due("forgotten", h.count(14), NONE);
    }

    @Sentence(of = "III", is = "the RECORD that counts tells TAIL, MARKS, the CLEANER; ENTRIES from TAIL on, as far as "
        + "they are there, count; HEAD is behind them.")
    static void entriesCount() {
        House h = House.small();
        h.make(0, "a");
        h.power(3);
        h.sync();
        h.restore();
        due("three are there", h.count(5), 61);
        due("the last of them", h.where(2), 2);
        due("the TORN one isn't", h.where(3), NONE);
        h.make(0, "a");
        h.sync();
        due("HEAD was 3", h.where(0), 3);
        House t = House.small().commitRoot(17);
        int head = t.count(0);
        int free = t.count(5);
        due("some STEPS were of TRIM", t.count(3) > 0, true);
        due("THE JOURNAL's one", t.restore(), 1);
        due("TAIL is as recorded", t.count(5), free - 1);
        due("HEAD is as it was", t.where(81), head);
    }

    @Sentence(of = "III", is = "If the CLEANER was at a band ahead of SAFE it is idle; behind SAFE all TRACKS are written "
        + "from SCRATCH (8 T WRITES), then DONE.")
    static void cleanerRestored() {
        for (int t : new int[] {8, 9}) {
            for (int steps = 0; steps <= 2 * t + 3; steps++) {
                House h = new House(4, t, 2, 64);
                h.make(0, "a");
                h.sync();
                h.cleanTimes(steps);
                int done = h.count(4);
                boolean behind = steps >= t + 2 && steps <= 2 * t + 2;
                due("WRITES behind " + steps + " STEPS", h.restore(), behind ? 8 * t + 1 + 4 : 4);
                due("idle", h.count(14), NONE);
                due("DONE", h.count(4), behind ? done + 1 : done);
                due("MARK", h.mark(0), steps >= t + 2 ? 10 : 0);
                due("destroyed in the band or SCRATCH", h.count(12) == 0, steps < 2 || steps > t);
                due("read", h.scrub(), 146);
                due("read, destroyed", h.count(11), 0);
                due("check", h.check(), 0);
            }
        }
    }

    @Sentence(of = "III", is = "If a band is STREAMED, all of its TRACKS are written with zeros (8 T WRITES), then the "
        + "second RECORD of STREAMING.")
    static void streamRestored() {
        for (int n : new int[] {0, 1, 2, 33, 64, 65, 66}) {
            House h = House.small().commitRoot(1);
            h.power(n);
            due("lay with a CUT behind " + n, h.lay(0, "l", "a"), n < 66 ? OFF : 1);
            h.power(-1);
            int before = h.count(1);
            due("WRITES", h.restore(), n == 0 || n == 66 ? 1 : 64 + 1 + 1);
            due("of them in the band", h.count(1) - before, n == 0 || n == 66 ? 0 : 64);
            due("destroyed", h.count(12), 0);
            due("RECORDS", h.count(3), n == 0 ? 0 : 2);
            due("not once more", h.restore(), 1);
        }
    }

    @Sentence(of = "III", is = "Then, if what was COMMITTED last is still told by THE JOURNAL (no SECTOR of THE JOURNAL "
        + "was WRITTEN since), its SECTORS are WRITTEN to their own once more, the lowest first.")
    static void toldAgain() {
        House h = House.small();
        h.make(0, "a");
        h.put(1, 0, "z");
        h.sync();
        due("five", h.restore(), 5);
        int[] sectors = {80, 81, 82, 145, 146};
        for (int i = 0; i < sectors.length; i++) {
            due("SECTOR " + sectors[i], h.where(sectors[i]), 12 + i);
        }
        due("the byte", h.byteAt(1, 0), 'z');
        h.mode(0, 1);
        h.power(1);
        due("THE JOURNAL's first is WRITTEN", h.sync(), OFF);
        due("not told any more", h.restore(), 0);
        due("the byte", h.byteAt(1, 0), 'z');
        h.mode(0, 1);
        h.sync();
        due("the last one alone", h.restore(), 1);
        // Brought to its HOME, THE JOURNAL tells what it told.
        h.cleanAll();
        due("still", h.restore(), 1);
        due("MODE", h.rights(0, 1), 1);
    }

    @Sentence(of = "III", is = "The tree is as it was COMMITTED last (at the beginning: the root alone), nothing is DIRTY.")
    static void treeRestored() {
        same("at the beginning", h -> { }, h -> {
            h.make(0, "a");
            h.dir(0, "d");
            h.mode(0, 3);
            h.restore();
        });
        House h = House.kinds();
        h.sync();
        h.put(1, 0, "zzzz");
        h.drop(2, "f");
        h.rename(0, "d", 0, "e");
        h.put(3, 0, "zzzz");
        h.give(4, 9);
        h.drop(0, "p");
        h.restore();
        due("size", h.size(1), 3);
        due("byte", h.byteAt(1, 0), 'a');
        due("LINKS", h.links(1), 2);
        due("NAME", h.find(0, "d"), 2);
        due("no NAME", h.find(0, "e"), -12);
        due("byte of the LAID FILE", h.byteAt(3, 0), 'l');
        due("POINTER", h.kind(4), 4);
        due("OWNER", h.rights(4, 0), 0);
        due("DIRTY", h.count(7), 0);
        due("check", h.check(), 0);
    }

    public static void main(String[] args) throws IllegalAccessException {
        run(FilesEdgesTest.class);
    }
}
