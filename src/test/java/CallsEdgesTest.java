import java.util.Arrays;

/** The promises of the document, call by call and sentence by sentence. */
public final class CallsEdgesTest extends Edges {
    @Sentence(of = "What it is", is = "An object is used for at most 512 calls after it has been made; what later calls "
        + "answer is free.")
    static void manyCalls() {
        House h = House.small();
        for (int i = 0; i < 127; i++) {
            due("mode " + i, h.mode(0, i % 2), i == 0 ? 63 : 1 - i % 2);
            due("sync " + i, h.sync(), 1);
            due("ENTRIES", h.count(0), 4 * (i + 1));
            due("next", h.where(81), 4 * i + 3);
        }
        due("the 509th", h.check(), 0);
        due("the 510th", h.scrub(), 145);
        due("the 511th", h.rights(0, 1), 0);
        due("the 512th", h.restore(), 1);
    }

    @Sentence(of = "1", is = "B bands of 4 to 8, T tracks of 8 to 32, S of 1 to 4, C of 64 to 256 (a number outside: the "
        + "nearest one); the power is on, no CUT is planned.")
    static void newObject() {
        int[][] bands = {{Integer.MIN_VALUE, 4}, {-1, 4}, {0, 4}, {3, 4}, {4, 4}, {5, 5}, {8, 8}, {9, 8},
            {Integer.MAX_VALUE, 8}};
        for (int[] b : bands) {
            House h = new House(b[0], 8, 1, 64);
            due("L with B " + b[0], h.count(13), 64 * b[1]);
            due("the last band", h.mark(b[1] - 1), 0);
            due("no band", h.mark(b[1]), -15);
        }
        int[][] tracks = {{Integer.MIN_VALUE, 8}, {0, 8}, {7, 8}, {8, 8}, {9, 9}, {31, 31}, {32, 32}, {33, 32},
            {Integer.MAX_VALUE, 32}};
        for (int[] t : tracks) {
            due("L with T " + t[0], new House(4, t[0], 1, 64).count(13), 32 * t[1]);
        }
        int[][] shingles = {{Integer.MIN_VALUE, 1}, {0, 1}, {1, 1}, {2, 2}, {3, 3}, {4, 4}, {5, 4}, {Integer.MAX_VALUE, 4}};
        for (int[] s : shingles) {
            House h = new House(4, 8, s[0], 64);
            h.power(1);
            h.lay(0, "l", "a");
            due("destroyed with S " + s[0], h.count(12), 1 + 8 * s[1]);
        }
        int[][] caches = {{Integer.MIN_VALUE, 64}, {0, 64}, {63, 64}, {64, 64}, {65, 65}, {255, 255}, {256, 256}, {257, 256},
            {Integer.MAX_VALUE, 256}};
        for (int[] c : caches) {
            due("FREE with C " + c[0], new House(4, 8, 1, c[0]).count(5), c[1]);
        }
        House h = House.small();
        h.make(0, "a");
        due("no CUT", h.sync(), 4);
        due("on", h.power(-1), true);
    }

    @Sentence(of = "2", is = "Twenty bytes more on the tape, four in each number, the highest first; false, and nothing "
        + "happens, if it would have more than 1280. (OFF, too.)")
    static void feed() {
        House h = House.small();
        h.make(0, "a");
        h.feed(0x01020304, 0xFFFEFD80, 0, Integer.MAX_VALUE, Integer.MIN_VALUE);
        due("twenty", h.put(1, 0), 20);
        int[] bytes = {1, 2, 3, 4, 255, 254, 253, 128, 0, 0, 0, 0, 127, 255, 255, 255, 128, 0, 0, 0};
        for (int i = 0; i < 20; i++) {
            due("byte " + i, h.byteAt(1, i), bytes[i]);
        }
        for (int i = 0; i < 2; i++) {
            House g = i == 0 ? House.small() : House.off();
            for (int k = 0; k < 63; k++) {
                due("feed " + k, g.feed(k, k, k, k, k), true);
            }
            due("end", g.end(1241), true);
            due("1261", g.feed(9, 9, 9, 9, 9), true);
            due("1281", g.feed(8, 8, 8, 8, 8), false);
            due("nothing happened", g.end(1262), false);
            due("end", g.end(1260), true);
            due("1280", g.feed(7, 7, 7, 7, 0x77777777), true);
            due("1300", g.feed(6, 6, 6, 6, 6), false);
            g.restore();
            g.make(0, "a");
            due("put", g.put(1, 0), 1280);
            due("the last byte", g.byteAt(1, 1279), 0x77);
        }
    }

    @Sentence(of = "3", is = "The tape has its first n bytes alone; false, and nothing happens, if it has not so many, or n "
        + "is below 0. (OFF, too.)")
    static void end() {
        for (int i = 0; i < 2; i++) {
            House h = i == 0 ? House.small() : House.off();
            due("of none", h.end(1), false);
            due("0 of none", h.end(0), true);
            h.feed(0x61626364, 0x65666768, 0, 0, 0);
            due("21 of 20", h.end(21), false);
            due("-1", h.end(-1), false);
            due("least", h.end(Integer.MIN_VALUE), false);
            due("most", h.end(Integer.MAX_VALUE), false);
            due("20 of 20", h.end(20), true);
            due("5 of 20", h.end(5), true);
            due("6 of 5", h.end(6), false);
            due("5 of 5", h.end(5), true);
            h.feed(0x78797a30, 0, 0, 0, 0);
            h.end(7);
            h.restore();
            h.make(0, "a");
            due("put", h.put(1, 0), 7);
            due("the last of the first ones", h.byteAt(1, 4), 'e');
            due("the next one fed", h.byteAt(1, 5), 'x');
            due("0 of none", h.end(0), true);
        }
    }

    @Sentence(of = "4", is = "WHO acts from now on (0 .. 15; 0 at the beginning, and still behind a RESTORE who it was): who "
        + "it was. -15.")
    static void as() {
        House h = House.small();
        due("0 at the beginning", h.as(0), 0);
        for (int user = 0; user < 15; user++) {
            due("who it was", h.as(user + 1), user);
        }
        for (int user : new int[] {-1, 16, Integer.MIN_VALUE, Integer.MAX_VALUE}) {
            due("as " + user, h.as(user), -15);
        }
        h.make(0, "a");
        due("who acts", h.rights(1, 0), 15);
        h.restore();
        h.make(0, "b");
        due("behind a RESTORE", h.rights(1, 0), 15);
        h.power(0);
        h.sync();
        due("OFF", h.as(3), OFF);
        h.restore();
        due("behind a CUT", h.as(1), 15);
    }

    @Sentence(of = "5", is = "A new FILE of size 0: its NODE. -10, -11, -20 (to WRITE and to GO in it), -13, -16.")
    static void make() {
        House h = House.small();
        for (int i = 0; i < 48; i++) {
            due("make " + i, h.make(0, "f" + i), i + 1);
        }
        due("kind", h.kind(48), 1);
        due("size", h.size(48), 0);
        due("no BLOCK", h.block(48, 0), NONE);
        due("LINKS", h.links(48), 1);
        due("no DIRECTORY", h.make(48, "x"), -10);
        due("no NAME", h.make(0, 0), -11);
        due("there", h.make(0, "f47"), -13);
        due("no SLOT", h.make(0, "x"), -16);
        House o = House.owned();
        o.mode(1, 59);
        o.as(4);
        due("WRITE and GO", o.make(1, "x"), 3);
        o.as(0);
        o.mode(1, 62);
        o.as(4);
        due("no GO", o.make(1, "y"), -20);
        o.as(0);
        o.mode(1, 61);
        o.as(4);
        due("no WRITE", o.make(1, "y"), -20);
    }

    @Sentence(of = "6", is = "A new DIRECTORY without BLOCKS: its NODE. -10, -11, -20 (likewise, as at all calls that make, "
        + "drop, rename NAMES), -13, -16.")
    static void dir() {
        House h = House.small();
        int at = 0;
        for (int i = 1; i <= 63; i++) {
            due("one within another, " + i, h.dir(at, "d"), i);
            due("PARENT", h.parent(i), at);
            due("NAMES", h.size(i), 0);
            due("no BLOCK", h.block(i, 0), NONE);
            at = i;
        }
        due("no NODE", h.dir(63, "d"), -16);
        due("no DIRECTORY", h.dir(64, "d"), -10);
        due("no NAME", h.dir(63, 0), -11);
        due("there", h.dir(0, "d"), -13);
        due("the last into the first", h.rename(62, "d", 1, "e"), 63);
        due("the first into what is within", h.rename(0, "d", 62, "x"), -18);
        due("check", h.check(), 0);
        House o = House.owned();
        o.as(4);
        due("may not", o.dir(1, "x"), -20);
    }

    @Sentence(of = "7", is = "A new LAID FILE, whose bytes are the tape's, again and again: its NODE.")
    static void lay() {
        House h = House.small();
        due("lay", h.lay(0, "l", "abcde"), 1);
        due("kind", h.kind(1), 3);
        for (int i = 0; i < 4096; i += 91) {
            due("byte " + i, h.byteAt(1, i), "abcde".charAt(i % 5));
        }
        House g = House.small();
        due("one byte", g.lay(0, "l", "\0"), 1);
        due("byte", g.byteAt(1, 4095), 0);
    }

    @Sentence(of = "7", is = "-10, -11, -20, -13, -15 the tape is empty, -16 (no NODE; no band all of whose SECTORS are free "
        + "BLOCKS, now and as COMMITTED last, at which the CLEANER isn't; no SLOT, or no BLOCK for one outside of that "
        + "band).")
    static void layRefused() {
        House e = House.small();
        due("the tape is empty", e.lay(0, 'l'), -15);
        House n = House.small().files(47);
        n.dir(0, "d");
        for (int i = 0; i < 15; i++) {
            n.make(48, "g" + i);
        }
        due("no NODE", n.lay(48, "l", "x"), -16);
        n.drop(48, "g3");
        due("a NODE", n.lay(48, "l", "x"), 52);
        House s = House.small().files(48);
        int writes = s.writes();
        due("no SLOT", s.lay(0, "l", "x"), -16);
        due("nothing is STREAMED", s.writes(), writes);
        s.drop(0, "f3");
        due("a SLOT", s.lay(0, "l", "x"), 4);
        House b = House.large();
        for (int i = 0; i < 7; i++) {
            due("bands of BLOCKS alone", b.lay(0, "l" + i, "x"), i + 1);
        }
        due("band 0 has others", b.lay(0, "l7", "x"), -16);
        House c = House.small();
        c.lay(0, "l", "x");
        c.drop(0, "l");
        due("free now, and as COMMITTED last", c.lay(0, "l", "x"), 1);
        c.sync();
        due("used now", c.lay(0, "m", "x"), -16);
        c.drop(0, "l");
        due("free now, used as COMMITTED last", c.lay(0, "m", "x"), -16);
        c.sync();
        due("free now, and as COMMITTED last", c.lay(0, "m", "x"), 1);
        House m = House.large();
        for (int i = 0; i < 3; i++) {
            due("lay", m.lay(0, "l" + i, "x"), i + 1);
        }
        m.sync();
        for (int i = 0; i < 3; i++) {
            m.drop(0, "l" + i);
        }
        due("three bands are used as COMMITTED last", m.lay(0, "m", "x"), 1);
        due("the one below them", m.block(1, 0), 256 * 4);
        layByBlocks();
    }

    private static void layByBlocks() {
        House h = House.small().leaveFree(0);
        h.drop(0, "laid");
        h.feed(1, 2, 3, 4, 5);
        h.put(3, 64);
        due("a BLOCK of the band", h.block(3, 1), 192);
        h.sync();
        due("one of its SECTORS is used", h.lay(0, "l", "x"), -16);
        h.cut(3, 64);
        due("as COMMITTED last it is", h.lay(0, "l", "x"), -16);
        h.sync();
        due("free BLOCKS: the band", h.count(8) - 64, 0);
        h.make(0, "s");
        h.make(0, "t");
        due("no BLOCK for a SLOT outside of it", h.lay(0, "l", "x"), -16);
        due("though one is free within", h.make(0, "u"), 5);
        due("of the band", h.block(0, 1), 192);

        House g = House.small().leaveFree(1);
        g.drop(0, "laid");
        g.sync();
        g.make(0, "s");
        g.make(0, "t");
        due("the band and one BLOCK", g.count(8), 65);
        due("that one is for the SLOT", g.lay(0, "l", "x"), 5);
        due("none is free", g.count(8), 0);
        due("check", g.check(), 0);
    }

    @Sentence(of = "7", is = "The highest of these bands is STREAMED, then all else is changed.")
    static void layHighest() {
        House h = new House(8, 8, 1, 256);
        for (int i = 0; i < 5; i++) {
            due("lay", h.lay(0, "l" + i, "x"), i + 1);
            due("the highest", h.block(i + 1, 0), 64 * (7 - i));
            due("its MARK", h.mark(7 - i), h.count(0));
        }
        due("no more", h.lay(0, "l5", "x"), -16);
        due("WRITES in bands", h.count(1), 5 * 64);
        due("RECORDS", h.count(3), 10);
        due("no ENTRY for what is changed", h.count(0), 0);
        due("DIRTY: six NODES, THE MAP, two BLOCKS of SLOTS", h.count(7), 9);
        h.sync();
        h.drop(0, "l1");
        h.drop(0, "l3");
        h.sync();
        due("lay", h.lay(0, "m", "x"), 2);
        due("the highest of two", h.block(2, 0), 64 * 6);
    }

    @Sentence(of = "8", is = "A new POINTER, whose TEXT is the tape's: its NODE. -10, -11, -20, -13, -15 (no bytes, or more "
        + "than 40), -16.")
    static void point() {
        House h = House.small();
        String forty = "0123456789".repeat(4);
        due("40", h.point(0, "p", forty), 1);
        due("41", h.point(0, "q", forty + "x"), -15);
        due("1280", h.point(0, "q", forty.repeat(32)), -15);
        due("none", h.point(0, 'q'), -15);
        due("any bytes", h.point(0, "q", "\0\u00ff A"), 2);
        due("size", h.size(2), 4);
        due("byte", h.byteAt(2, 0), 0);
        due("byte", h.byteAt(2, 1), 255);
        due("there", h.point(0, "p", "x"), -13);
        due("no NAME", h.point(0, "P", "x"), -11);
        due("no DIRECTORY", h.point(1, "r", "x"), -10);
        due("no MODE", h.rights(1, 1), NONE);
        House o = House.owned();
        o.as(4);
        due("may not", o.point(1, "p", "x"), -20);
        House f = House.small().files(48);
        due("no SLOT", f.point(0, "p", "x"), -16);
    }

    @Sentence(of = "9", is = "A FILE or LAID FILE has one more NAME: how many LINKS it has now. -10, -11, -20, -14, -13, -15 "
        + "(it has 255), -16 (no SLOT).")
    static void link() {
        House h = new House(8, 8, 1, 256);
        h.make(0, "f");
        h.lay(0, "l", "x");
        for (int i = 0; i < 6; i++) {
            h.dir(0, "d" + i);
        }
        due("a LAID FILE", h.link(0, "m", 2), 2);
        for (int i = 2; i <= 255; i++) {
            due("link", h.link(3 + (i - 2) / 48, "l" + i, 1), i);
        }
        due("it has 255", h.link(8, "x", 1), -15);
        due("another one hasn't", h.link(8, "x", 2), 3);
        due("one less", h.drop(8, "l255"), 0);
        due("no SLOT", h.link(3, "x", 1), -16);
        due("255 again", h.link(8, "y", 1), 255);
        due("there", h.link(8, "y", 2), -13);
        due("a DIRECTORY", h.link(8, "z", 3), -14);
        due("in a FILE", h.link(1, "z", 1), -10);
        due("check", h.check(), 0);
    }

    @Sentence(of = "10", is = "The tape's bytes are written from a place of a FILE or LAID FILE on: how many.")
    static void put() {
        House h = House.kinds();
        due("put", h.put(1, 1, "XYZ"), 3);
        due("the byte ahead", h.byteAt(1, 0), 'a');
        due("the first", h.byteAt(1, 1), 'X');
        due("the last", h.byteAt(1, 3), 'Z');
        due("size", h.size(1), 4);
        due("within", h.put(1, 1, "q"), 1);
        due("size", h.size(1), 4);
        due("the byte behind", h.byteAt(1, 2), 'Y');
        due("over a PIECE's end", h.put(1, 62, "1234"), 4);
        due("byte", h.byteAt(1, 63), '2');
        due("byte", h.byteAt(1, 64), '3');
        due("a LAID FILE", h.put(3, 63, "12"), 2);
        due("the byte ahead", h.byteAt(3, 62), "laid".charAt(62 % 4));
        due("byte", h.byteAt(3, 63), '1');
        due("byte", h.byteAt(3, 64), '2');
        due("the byte behind", h.byteAt(3, 65), "laid".charAt(65 % 4));
        due("all of the tape", h.put(1, 0, 1280), 1280);
        due("size", h.size(1), 1280);
    }

    @Sentence(of = "10", is = "-14; -20 (to WRITE); -15 the place is below 0, or a FILE would have more than 68352 bytes, a "
        + "LAID FILE more than it has; -16.")
    static void putRefused() {
        House h = House.kinds();
        int[][] rows = {{1, 68352 - 3, 3, 3}, {1, 68352 - 2, 3, -15}, {1, 68352, 1, -15}, {1, -1, 3, -15},
            {1, Integer.MAX_VALUE, 3, -15}, {1, Integer.MAX_VALUE - 2, 3, -15}, {1, Integer.MIN_VALUE, 1, -15},
            {3, 4096 - 3, 3, 3}, {3, 4096 - 2, 3, -15}, {3, 4096, 1, -15}, {3, -1, 1, -15},
            {3, Integer.MAX_VALUE, 3, -15}, {0, 0, 1, -14}, {4, 0, 1, -14}, {5, 0, 1, -14}};
        for (int[] row : rows) {
            due("put at " + row[1] + " of NODE " + row[0], h.put(row[0], row[1], row[2]), row[3]);
        }
        House o = House.owned();
        o.mode(2, 61);
        o.as(4);
        due("READ and GO alone", o.put(2, 0, "x"), -20);
        o.as(3);
        o.mode(2, 2);
        due("others' WRITE is none of the OWNER's", o.put(2, 0, "x"), -20);
        o.as(4);
        due("WRITE alone", o.put(2, 0, "x"), 1);
        House f = House.small().leaveFree(1);
        due("two BLOCKS", f.put(3, 63, "xy"), -16);
        due("one BLOCK", f.put(3, 62, "xy"), 2);
        due("none", f.put(3, 64, "x"), -16);
        due("none is wanted", f.put(3, 0, 64), 64);
    }

    @Sentence(of = "10", is = "A FILE grows where it has to; what lies between its old size and the place are zeros.")
    static void putGrows() {
        House h = House.small();
        h.make(0, "a");
        h.put(1, 0, 64);
        h.cut(1, 10);
        h.put(1, 20, "z");
        due("size", h.size(1), 21);
        for (int i = 10; i < 20; i++) {
            due("zeros in the same PIECE", h.byteAt(1, i), 0);
        }
        h.put(1, 200, "z");
        due("size", h.size(1), 201);
        for (int i = 21; i < 200; i++) {
            due("zeros", h.byteAt(1, i), 0);
        }
        due("HOLES", h.block(1, 1), NONE);
        h.put(1, 0, 10);
        due("it does not shrink", h.size(1), 201);
        h.put(1, 191, 10);
        due("to its end: it does not grow", h.size(1), 201);
        h.put(1, 192, 10);
        due("by one", h.size(1), 202);
    }

    @Sentence(of = "10", is = "Without bytes nothing is changed (-15 as if there were none).")
    static void putNothing() {
        House h = House.kinds();
        h.sync();
        due("within", h.put(1, 1), 0);
        due("behind", h.put(1, 1000), 0);
        due("size", h.size(1), 3);
        due("DIRTY", h.count(7), 0);
        due("the most", h.put(1, 68352), 0);
        due("one more", h.put(1, 68353), -15);
        due("below 0", h.put(1, -1), -15);
        due("a LAID FILE's most", h.put(3, 4096), 0);
        due("one more", h.put(3, 4097), -15);
        due("DIRTY", h.count(7), 0);
    }

    @Sentence(of = "11", is = "A FILE has its first bytes alone: how many BLOCKS it gave back (INDEXES and DOUBLE with them).")
    static void cut() {
        House h = House.small();
        h.make(0, "a");
        h.put(1, 0, 200);
        due("four PIECES, three stay", h.cut(1, 190), 1);
        due("size", h.size(1), 190);
        due("the last byte", h.byteAt(1, 189), 'x');
        due("none behind", h.byteAt(1, 190), NONE);
        due("three stay", h.cut(1, 129), 0);
        due("two stay", h.cut(1, 128), 1);
        h.put(1, 64 * 12, "x");
        h.put(1, 64 * 44, "x");
        h.put(1, 64 * 76, "x");
        due("all: 5 PIECES, INDEX, DOUBLE, INDEXES 0 and 1", h.cut(1, 0), 9);
        due("free", h.count(8), 110);
        due("none to give back", h.cut(1, 0), 0);
    }

    @Sentence(of = "11", is = "-14 (a LAID FILE, too), -20 (to WRITE), -15 below 0 or above the size.")
    static void cutRefused() {
        House h = House.kinds();
        due("a LAID FILE", h.cut(3, 0), -14);
        due("a DIRECTORY", h.cut(2, 0), -14);
        due("a POINTER", h.cut(4, 0), -14);
        due("free", h.cut(5, 0), -14);
        due("no NODE", h.cut(64, 0), -14);
        due("below 0", h.cut(1, -1), -15);
        due("above", h.cut(1, 4), -15);
        due("the least", h.cut(1, Integer.MIN_VALUE), -15);
        due("the most", h.cut(1, Integer.MAX_VALUE), -15);
        due("the size", h.cut(1, 3), 0);
        House o = House.owned();
        o.as(4);
        due("without WRITE", o.cut(2, 0), -20);
        o.as(3);
        o.mode(2, 16);
        due("WRITE alone", o.cut(2, 0), 0);
    }

    @Sentence(of = "11", is = "The size it has: nothing is changed.")
    static void cutSame() {
        for (int size : new int[] {0, 1, 63, 64, 65, 100}) {
            House h = House.one();
            h.put(1, 0, size);
            h.sync();
            due("cut to " + size, h.cut(1, size), 0);
            due("DIRTY", h.count(7), 0);
        }
    }

    @Sentence(of = "11", is = "What is behind in its last PIECE becomes zeros (its BLOCK is changed, if it has one).")
    static void cutZeros() {
        for (int size : new int[] {1, 63, 65, 100, 127}) {
            House h = House.one();
            h.put(1, 0, 128);
            h.sync();
            h.cut(1, size);
            h.sync();
            h.put(1, 191, "z");
            due("what stays", h.byteAt(1, size - 1), 'x');
            for (int i = size; i < 191; i++) {
                due("zeros behind " + size, h.byteAt(1, i), 0);
            }
        }
        House n = House.one();
        n.put(1, 128, "z");
        n.sync();
        n.cut(1, 100);
        due("a HOLE: NODE, THE MAP", n.count(7), 2);
    }

    @Sentence(of = "12", is = "A NAME is taken out: how many BLOCKS were given back (with an INDEX; of a LAID FILE all of its "
        + "band).")
    static void drop() {
        House h = new House(8, 9, 1, 256);
        h.files(3);
        h.put(2, 64 * 11, 128);
        h.put(3, 64 * 11, 128);
        h.put(3, 64 * 44, "x");
        h.put(3, 68351, "x");
        h.lay(0, "l", "x");
        h.point(0, "p", "x");
        h.dir(0, "d");
        h.dir(0, "e");
        h.make(7, "in");
        h.drop(7, "in");
        due("an empty FILE", h.drop(0, "f0"), 0);
        due("two PIECES and an INDEX", h.drop(0, "f1"), 3);
        due("four PIECES, INDEX, DOUBLE, INDEXES 0 and 31", h.drop(0, "f2"), 8);
        due("a band", h.drop(0, "l"), 72);
        due("a POINTER", h.drop(0, "p"), 0);
        due("a DIRECTORY without BLOCKS", h.drop(0, "d"), 0);
        due("a DIRECTORY with one", h.drop(0, "e"), 1);
        due("no NAME is left", h.size(0), 0);
        due("free but for the root's two", h.count(8), 576 - 146 - 2);
        due("check", h.check(), 0);
        House l = House.large();
        l.lay(0, "l", "x");
        l.lay(0, "m", "x");
        due("a band of SECTORS 1792 .. 2047", l.drop(0, "l"), 256);
        due("the other one stays used", l.count(8), 2048 - 148 - 256 - 1);
        due("check", l.check(), 0);
    }

    @Sentence(of = "12", is = "What has LINKS left stays (0 then); else its NODE is free.")
    static void dropLinks() {
        House h = House.kinds();
        due("LINKS left", h.drop(0, "f"), 0);
        due("one", h.links(1), 1);
        due("byte", h.byteAt(1, 0), 'a');
        due("none left", h.drop(2, "f"), 1);
        due("free", h.kind(1), 0);
        due("free NODES", h.count(9), 60);
        h.link(2, "m", 3);
        due("LINKS left", h.drop(0, "l"), 0);
        due("byte", h.byteAt(3, 0), 'l');
        due("none left", h.drop(2, "m"), 64);
        due("free", h.kind(3), 0);
        due("check", h.check(), 0);
    }

    @Sentence(of = "12", is = "-10, -11, -20, -12, -17.")
    static void dropRefused() {
        House h = House.kinds();
        due("no DIRECTORY", h.drop(1, "f"), -10);
        due("no NAME", h.drop(0, 0), -11);
        due("nothing there", h.drop(0, "x"), -12);
        due("a beginning of a NAME that is there", h.drop(2, "ff"), -12);
        due("not empty", h.drop(0, "d"), -17);
        h.as(5);
        due("may not", h.drop(2, "f"), -20);
        due("but in the root", h.drop(0, "f"), 0);
    }

    @Sentence(of = "13", is = "What has a NAME in a DIRECTORY has another one in one: its NODE.")
    static void rename() {
        House h = House.kinds();
        String[] names = {"f", "d", "l", "p"};
        for (int i = 0; i < 4; i++) {
            due("rename", h.rename(0, names[i], 0, "new" + i), i + 1);
            due("its NAME", h.find(0, "new" + i), i + 1);
            due("no more", h.find(0, names[i]), -12);
        }
        due("elsewhere", h.rename(0, "new2", 2, "there"), 3);
        due("its NAME", h.find(2, "there"), 3);
        due("NAMES", h.size(0), 3);
        due("NAMES", h.size(2), 2);
        due("LINKS are as many", h.links(3), 1);
        due("check", h.check(), 0);
    }

    @Sentence(of = "13", is = "-10 (either one), -11 (either one), -20 (either one), -12;")
    static void renameRefused() {
        House h = House.kinds();
        due("no DIRECTORY", h.rename(1, "f", 0, "x"), -10);
        due("no other DIRECTORY", h.rename(0, "f", 4, "x"), -10);
        due("no NAME", h.rename(0, 'F', 0, 'x'), -11);
        due("no other NAME", h.rename(0, 'f', 0, 'X'), -11);
        due("nothing there", h.rename(2, "x", 0, "y"), -12);
        h.as(5);
        due("may not out of it", h.rename(2, "f", 0, "x"), -20);
        due("may not into it", h.rename(0, "f", 2, "x"), -20);
        due("nothing is changed", h.find(0, "f"), 1);
    }

    @Sentence(of = "13", is = "the same NAME in the same DIRECTORY: nothing is changed; -18; if something has the other NAME: "
        + "-13 (the same NODE; or the one is a DIRECTORY, the other not), -17 (a DIRECTORY with something in it); -16.")
    static void renameOnto() {
        House h = House.kinds();
        h.dir(0, "e");
        h.dir(5, "in");
        h.sync();
        due("the same", h.rename(0, "f", 0, "f"), 1);
        due("the same of a DIRECTORY", h.rename(0, "d", 0, "d"), 2);
        due("nothing is changed", h.count(7), 0);
        due("the same NAME elsewhere, the same NODE", h.rename(0, "f", 2, "f"), -13);
        due("into itself", h.rename(0, "e", 5, "x"), -18);
        due("within itself", h.rename(0, "e", 6, "x"), -18);
        due("a FILE onto a DIRECTORY", h.rename(0, "f", 0, "e"), -13);
        due("a LAID FILE onto a DIRECTORY", h.rename(0, "l", 0, "e"), -13);
        due("a POINTER onto a DIRECTORY", h.rename(0, "p", 0, "e"), -13);
        due("a DIRECTORY onto a FILE", h.rename(0, "e", 0, "f"), -13);
        due("a DIRECTORY onto a LAID FILE", h.rename(0, "e", 0, "l"), -13);
        due("a DIRECTORY onto a POINTER", h.rename(0, "e", 0, "p"), -13);
        due("onto one with something in it", h.rename(0, "e", 0, "d"), -17);
        due("onto the one that it is in", h.rename(5, "in", 0, "e"), -17);
        due("nothing is changed", h.count(7), 0);
        due("onto an empty one", h.rename(0, "d", 5, "in"), 2);
        due("its PARENT", h.parent(2), 5);
        due("free", h.kind(6), 0);
        due("a POINTER onto a FILE", h.rename(0, "p", 2, "f"), 4);
        due("a FILE onto a LAID FILE", h.rename(0, "f", 0, "l"), 1);
        due("free", h.kind(3), 0);
        due("check", h.check(), 0);
        House s = House.small().files(47);
        s.dir(0, "d");
        s.make(48, "x");
        due("no SLOT", s.rename(48, "x", 0, "x"), -16);
    }

    @Sentence(of = "13", is = "What had the other NAME is dropped first; then it is taken out, then put in.")
    static void renameInOrder() {
        // NAMES f0 .. f3 are in BLOCK 145, f4 .. f7 in BLOCK 146.
        int[][] rows = {{6, 1, 1, 1}, {1, 6, 1, 1}, {1, 2, 1, 0}, {5, 6, 0, 1}};
        for (int[] row : rows) {
            House h = House.small().files(8);
            h.sync();
            int before = h.count(0);
            due("rename", h.rename(0, "f" + row[0], 0, "f" + row[1]), row[0] + 1);
            due("DIRTY: the NODE that is free, BLOCKS", h.sync(), 1 + row[2] + row[3]);
            due("the first BLOCK", h.where(145) >= before, row[2] == 1);
            due("the second BLOCK", h.where(146) >= before, row[3] == 1);
            // The lowest of the two SLOTS is used again: the other one is taken by the next NAME, with no BLOCK more.
            due("a NODE", h.make(0, "g"), row[1] + 1);
            due("no BLOCK more", h.block(0, 2), NONE);
            due("the next needs one", h.make(0, "h"), 9);
            due("a BLOCK more", h.block(0, 2), 147);
        }
    }

    @Sentence(of = "14", is = "The NODE that has a NAME. -10, -11, -20 (to GO in it), -12.")
    static void find() {
        House h = House.kinds();
        due("FILE", h.find(0, "f"), 1);
        due("DIRECTORY", h.find(0, "d"), 2);
        due("LAID FILE", h.find(0, "l"), 3);
        due("POINTER itself", h.find(0, "p"), 4);
        due("elsewhere", h.find(2, "f"), 1);
        due("nothing", h.find(2, "d"), -12);
        due("no NAME", h.find(2, 0), -11);
        due("no DIRECTORY", h.find(1, "f"), -10);
        h.mode(2, 6);
        h.as(5);
        due("no GO", h.find(2, "f"), -20);
        h.as(0);
        h.mode(2, 1);
        h.as(5);
        due("GO alone", h.find(2, "f"), 1);
    }

    @Sentence(of = "15", is = "WALKS the tape's bytes, a PATH, from a DIRECTORY: the NODE where one is behind it (never a "
        + "POINTER). -10, then as told at a part.")
    static void walk() {
        House h = House.kinds();
        h.point(0, "q", "p2");
        h.point(0, "p2", "d");
        h.point(0, "lost", "p");
        due("FILE", h.walk(0, "f"), 1);
        due("DIRECTORY", h.walk(0, "d"), 2);
        due("LAID FILE", h.walk(0, "l"), 3);
        due("never a POINTER", h.walk(0, "q"), 2);
        due("a POINTER that leads nowhere", h.walk(0, "lost"), -12);
        due("no DIRECTORY", h.walk(1, "f"), -10);
        due("no DIRECTORY, and no NAME", h.walk(4, "X"), -10);
        due("no NAME", h.walk(0, "X"), -11);
        due("nothing", h.walk(0, "x"), -12);
    }

    @Sentence(of = "16", is = "The NODE, in the order of NAMES (byte by byte from the lowest on, a beginning first), at place "
        + "k of a DIRECTORY; NONE. -10, -20 (to READ).")
    static void entry() {
        // At each of eight places six different bytes, behind as many of one byte more.
        String[] sorted = new String[48];
        House h = House.small();
        for (int i = 0; i < 48; i++) {
            sorted[i] = "aaaaaaaa".substring(0, i / 6) + "z-_0.9".charAt(i % 6);
            due("make " + sorted[i], h.make(0, sorted[i]), i + 1);
        }
        Arrays.sort(sorted);
        for (int k = 0; k < sorted.length; k++) {
            due("place " + k, h.entry(0, k), h.find(0, sorted[k]));
            due("NAME at place " + k, h.name(0, k), House.n(sorted[k]));
        }
        due("beyond", h.entry(0, sorted.length), NONE);
        due("below", h.entry(0, -1), NONE);
        due("no DIRECTORY", h.entry(1, 0), -10);
        House o = House.owned();
        o.mode(1, 56 + 3);
        o.as(4);
        due("without READ", o.entry(1, 0), -20);
        o.as(0);
        o.mode(1, 4);
        o.as(4);
        due("READ alone", o.entry(1, 0), 2);
        o.as(3);
        due("others' READ is none of the OWNER's", o.entry(1, 0), -20);
    }

    @Sentence(of = "17", is = "The NAME at that place; NONE. -10, -20.")
    static void name() {
        House h = House.small();
        String[] made = {"b", "ab", "a", "aaaaaaaa", "zzzzzzzz", "aaaaaaa", "a.", "a-"};
        String[] sorted = {"a", "a-", "a.", "aaaaaaa", "aaaaaaaa", "ab", "b", "zzzzzzzz"};
        for (String name : made) {
            h.make(0, name);
        }
        for (int k = 0; k < sorted.length; k++) {
            due("place " + k, h.name(0, k), House.n(sorted[k]));
        }
        due("beyond", h.name(0, 8), NONE);
        due("below", h.name(0, -1), NONE);
        due("no DIRECTORY", h.name(1, 0), -10);
        House o = House.owned();
        o.mode(1, 56 + 3);
        o.as(4);
        due("without READ", o.name(1, 0), -20);
    }

    @Sentence(of = "18", is = "0 free, 1 FILE, 2 DIRECTORY, 3 LAID FILE, 4 POINTER; -10 no number of a NODE.")
    static void kind() {
        House h = House.kinds();
        int[][] rows = {{0, 2}, {1, 1}, {2, 2}, {3, 3}, {4, 4}, {5, 0}, {63, 0}, {64, -10}, {-1, -10},
            {Integer.MIN_VALUE, -10}, {Integer.MAX_VALUE, -10}};
        for (int[] row : rows) {
            due("kind " + row[0], h.kind(row[0]), row[1]);
        }
        h.drop(0, "p");
        due("free again", h.kind(4), 0);
    }

    @Sentence(of = "19", is = "Of a FILE, LAID FILE, POINTER its bytes, of a DIRECTORY how many NAMES it has; -10 for a free "
        + "NODE, no number.")
    static void size() {
        House h = House.kinds();
        int[][] rows = {{0, 4}, {1, 3}, {2, 1}, {3, 4096}, {4, 5}, {5, -10}, {63, -10}, {64, -10}, {-1, -10},
            {Integer.MIN_VALUE, -10}, {Integer.MAX_VALUE, -10}};
        for (int[] row : rows) {
            due("size " + row[0], h.size(row[0]), row[1]);
        }
        h.drop(2, "f");
        due("none", h.size(2), 0);
        due("48", House.small().files(48).size(0), 48);
    }

    @Sentence(of = "20", is = "A NODE's MODE is another one: the old one. -10 (a free NODE, no number), -15 (a POINTER; none "
        + "of 0 .. 63), -20 (WHO is neither its OWNER nor 0).")
    static void mode() {
        House h = House.kinds();
        due("FILE", h.mode(1, 0), 52);
        due("FILE", h.mode(1, 63), 0);
        due("DIRECTORY", h.mode(2, 1), 61);
        due("LAID FILE", h.mode(3, 1), 52);
        due("the root", h.mode(0, 61), 63);
        due("another one", h.rights(1, 1), 63);
        due("free", h.mode(5, 0), -10);
        due("no number", h.mode(64, 0), -10);
        due("a POINTER", h.mode(4, 0), -15);
        due("-1", h.mode(1, -1), -15);
        due("64", h.mode(1, 64), -15);
        due("still", h.rights(1, 1), 63);
        h.give(1, 5);
        h.as(5);
        due("its OWNER", h.mode(1, 7), 63);
        due("another's", h.mode(2, 7), -20);
        h.as(6);
        due("not its OWNER, whatever its MODE", h.mode(1, 1), -20);
        h.as(0);
        due("0", h.mode(1, 2), 7);
    }

    @Sentence(of = "21", is = "A NODE has another OWNER: the old one. -10, -15 (none of 0 .. 15), -20 (WHO isn't 0).")
    static void give() {
        House h = House.kinds();
        for (int node = 0; node <= 4; node++) {
            due("NODE " + node, h.give(node, 15 - node), 0);
            due("its OWNER", h.rights(node, 0), 15 - node);
        }
        due("free", h.give(5, 1), -10);
        due("no number", h.give(-1, 1), -10);
        due("-1", h.give(1, -1), -15);
        due("16", h.give(1, 16), -15);
        h.as(14);
        due("its OWNER may not", h.give(1, 1), -20);
        h.as(0);
        due("0 may", h.give(1, 0), 14);
    }

    @Sentence(of = "22", is = "Of a NODE its OWNER (what 0), its MODE (1; NONE of a POINTER); NONE for another what. -10.")
    static void rights() {
        House h = House.kinds();
        h.give(4, 9);
        due("OWNER", h.rights(4, 0), 9);
        due("MODE of a POINTER", h.rights(4, 1), NONE);
        due("MODE", h.rights(1, 1), 52);
        for (int what : new int[] {-1, 2, 3, Integer.MIN_VALUE, Integer.MAX_VALUE}) {
            due("what " + what, h.rights(1, what), NONE);
            due("free, what " + what, h.rights(5, what), -10);
        }
        due("free", h.rights(5, 0), -10);
        due("no number", h.rights(64, 1), -10);
        h.mode(1, 0);
        h.as(7);
        due("anybody may ask", h.rights(1, 1), 0);
    }

    @Sentence(of = "23", is = "How many LINKS a FILE or LAID FILE has. -14.")
    static void links() {
        House h = House.kinds();
        int[][] rows = {{0, -14}, {1, 2}, {2, -14}, {3, 1}, {4, -14}, {5, -14}, {63, -14}, {64, -14}, {-1, -14}};
        for (int[] row : rows) {
            due("links " + row[0], h.links(row[0]), row[1]);
        }
        h.rename(0, "f", 0, "g");
        due("renamed", h.links(1), 2);
        h.drop(0, "g");
        due("dropped", h.links(1), 1);
    }

    @Sentence(of = "24", is = "The PARENT of a DIRECTORY (the root's is 0). -10.")
    static void parent() {
        House h = House.kinds();
        h.dir(2, "in");
        int[][] rows = {{0, 0}, {1, -10}, {2, 0}, {3, -10}, {4, -10}, {5, 2}, {6, -10}, {63, -10}, {64, -10}, {-1, -10}};
        for (int[] row : rows) {
            due("parent " + row[0], h.parent(row[0]), row[1]);
        }
        h.rename(2, "in", 0, "out");
        due("another one", h.parent(5), 0);
    }

    @Sentence(of = "25", is = "The SECTOR that is the BLOCK of a FILE's PIECE k, a DIRECTORY's or LAID FILE's k-th; if k is "
        + "-1 a FILE's INDEX, -2 its DOUBLE, -3 - i INDEX i (0 .. 31) that this tells.")
    static void block() {
        House h = House.large();
        h.make(0, "a");
        for (int piece : new int[] {0, 11, 12, 43, 44, 75, 76, 1036, 1067}) {
            h.put(1, 64 * piece, "x");
        }
        int[][] rows = {{0, 149}, {11, 150}, {-1, 151}, {12, 152}, {43, 153}, {-2, 154}, {-3, 155}, {44, 156}, {75, 157},
            {-4, 158}, {76, 159}, {-34, 160}, {1036, 161}, {1067, 162}};
        for (int[] row : rows) {
            due("block " + row[0], h.block(1, row[0]), row[1]);
        }
        House d = House.small().files(48);
        for (int k = 0; k < 12; k++) {
            due("a DIRECTORY's " + k, d.block(0, k), 145 + k);
        }
        d.drop(0, "f0");
        d.rename(0, "f1", 0, "g");
        due("still", d.block(0, 11), 156);
    }

    @Sentence(of = "25", is = "NONE if there is none such (a HOLE, a free NODE, no number of one, too).")
    static void noBlock() {
        House h = House.kinds();
        h.put(1, 64 * 2, "x");
        h.put(1, 64 * 20, "x");
        h.put(1, 64 * 80, "x");
        int[][] rows = {{1, 1}, {1, 3}, {1, 12}, {1, 43}, {1, 44}, {1, 81}, {1, 1067}, {1, 1068}, {1, -3}, {1, -5},
            {1, -34}, {1, -35}, {1, -36}, {1, Integer.MIN_VALUE}, {1, Integer.MAX_VALUE}, {0, 1}, {0, 12}, {0, 13},
            {0, -1}, {0, -2}, {0, -3}, {3, 64}, {3, -1}, {3, Integer.MIN_VALUE}, {3, Integer.MAX_VALUE}, {5, 0}, {5, -1},
            {63, 0}, {64, 0}, {-1, 0}, {-1, -1}, {Integer.MAX_VALUE, 0}, {Integer.MIN_VALUE, 0}};
        for (int[] row : rows) {
            due("block " + row[1] + " of " + row[0], h.block(row[0], row[1]), NONE);
        }
        due("INDEX 1 is there", h.block(1, -4) > 0, true);
    }

    @Sentence(of = "26", is = "A byte of a FILE, LAID FILE, or a POINTER's TEXT (0 .. 255); NONE behind its end, below 0. "
        + "-14, -20 (to READ; of no POINTER).")
    static void byteAt() {
        House h = House.kinds();
        h.put(1, 0, "\u00ff\u0080\0");
        int[][] rows = {{1, 0, 255}, {1, 1, 128}, {1, 2, 0}, {1, 3, NONE}, {1, -1, NONE}, {3, 0, 'l'}, {3, 4095, 'd'},
            {3, 4096, NONE}, {3, -1, NONE}, {4, 0, 'a'}, {4, 4, 'c'}, {4, 5, NONE}, {4, -1, NONE}, {4, 40, NONE},
            {1, Integer.MAX_VALUE, NONE}, {1, Integer.MIN_VALUE, NONE}, {4, Integer.MAX_VALUE, NONE},
            {3, Integer.MIN_VALUE, NONE}, {0, 0, -14}, {2, 0, -14}, {5, 0, -14}, {64, 0, -14}, {-1, -1, -14}};
        for (int[] row : rows) {
            due("byte " + row[1] + " of " + row[0], h.byteAt(row[0], row[1]), row[2]);
        }
        h.mode(1, 59);
        h.mode(3, 59);
        h.as(5);
        due("without READ", h.byteAt(1, 0), -20);
        due("without READ", h.byteAt(3, 0), -20);
        due("of no POINTER", h.byteAt(4, 0), 'a');
    }

    @Sentence(of = "27", is = "Goes through all that is told, as it is now: how many things are not as they must be (a BLOCK "
        + "that two have, THE MAP unlike what is used, LINKS unlike SLOTS, a PARENT that is another one, a NODE that "
        + "nothing has, an INDEX or DOUBLE that tells none, a place beyond the size that has a BLOCK): 0.")
    static void check() {
        due("at first", House.small().check(), 0);
        House h = House.kinds();
        due("as it is now", h.check(), 0);
        h.put(1, 64 * 44, 128);
        due("with a DOUBLE", h.check(), 0);
        h.cut(1, 64 * 44 + 1);
        due("cut", h.check(), 0);
        h.cut(1, 64 * 44);
        due("without it", h.check(), 0);
        h.link(2, "g", 1);
        h.drop(0, "f");
        due("LINKS", h.check(), 0);
        h.dir(2, "in");
        h.rename(2, "in", 0, "out");
        due("PARENTS", h.check(), 0);
        h.drop(0, "l");
        due("a band given back", h.check(), 0);
        h.restore();
        due("the root alone", h.check(), 0);
        due("all used", House.small().leaveFree(0).check(), 0);
        due("all NAMES", House.small().files(48).check(), 0);
    }

    @Sentence(of = "28", is = "Reads all SECTORS of THE VOLUME but free BLOCKS: how many.")
    static void scrub() {
        due("small", House.small().scrub(), 145);
        due("large", House.large().scrub(), 148);
        House h = House.one();
        due("SLOTS", h.scrub(), 146);
        h.put(1, 0, 65);
        due("DIRTY ones, too", h.scrub(), 148);
        h.cut(1, 64);
        due("given back", h.scrub(), 147);
        due("all", House.small().leaveFree(0).scrub(), 256);
        due("OFF", House.off().scrub(), OFF);
    }

    @Sentence(of = "29", is = "COMMITS: how many SECTORS were DIRTY.")
    static void sync() {
        House h = House.small();
        due("none", h.sync(), 0);
        h.mode(0, 1);
        due("one", h.sync(), 1);
        due("none", h.sync(), 0);
        due("COMMITS", h.count(10), 1);
        House d = House.large().dirtyNodes(41);
        int commits = d.count(10);
        due("41", d.sync(), 41);
        due("at once", d.count(10), commits + 1);
        House c = House.small();
        c.mode(0, 1);
        c.power(3);
        due("CUT", c.sync(), OFF);
    }

    @Sentence(of = "30", is = "One STEP of the CLEANER: its KIND.")
    static void clean() {
        House h = House.small();
        due("nothing", h.clean(), 0);
        h.commitRoot(5);
        int[] kinds = {1, 2, 3, 3, 3, 3, 3, 3, 3, 3, 4, 5, 5, 5, 5, 5, 5, 5, 5, 6, 2};
        for (int kind : kinds) {
            due("STEP", h.clean(), kind);
        }
        due("the band of the root's NODE", h.count(14), 1);
        h.cleanTimes(18);
        due("nothing again", h.clean(), 0);
        for (int steps = 0; steps < 20; steps++) {
            House c = House.small().commitRoot(5).cleanTimes(steps);
            due("next", c.count(15), kinds[steps]);
            c.power(0);
            due("CUT in a STEP of KIND " + kinds[steps], c.clean(), OFF);
            due("OFF", c.clean(), OFF);
        }
    }

    @Sentence(of = "31", is = "The CUT is planned at n; none is, if n is below 0. Whether the power is on.")
    static void power() {
        for (int n : new int[] {-1, -2, Integer.MIN_VALUE, 10, 11, Integer.MAX_VALUE}) {
            House h = House.small();
            h.make(0, "a");
            h.power(0);
            due("planned anew", h.power(n), true);
            due("ten WRITES with " + n, h.sync(), 4);
        }
        for (int n : new int[] {0, 1, 9}) {
            House h = House.small();
            h.make(0, "a");
            h.power(100);
            h.power(-1);
            h.power(n);
            due("ten WRITES with " + n, h.sync(), OFF);
            due("done", h.count(0), n);
            due("not on", h.power(-1), false);
            due("not on", h.power(5), false);
            h.power(-1);
            h.restore();
            due("on", h.power(-1), true);
        }
    }

    @Sentence(of = "32", is = "RESTORE: how many WRITES were done.")
    static void restore() {
        House h = House.small();
        due("none", h.restore(), 0);
        h.make(0, "a");
        h.sync();
        due("four", h.restore(), 4);
        h.cleanTimes(10);
        int before = h.writes();
        due("64, DONE, four", h.restore(), 69);
        due("all of them", h.writes() - before, 69);
        h.power(2);
        due("CUT", h.restore(), OFF);
        due("OFF still", h.check(), OFF);
        due("four", h.restore(), 4);
    }

    @Sentence(of = "33", is = "The number of SECTOR x's LIVE ENTRY; NONE without one; -15 no SECTOR of THE VOLUME.")
    static void where() {
        House h = House.one();
        int[] entries = {0, 1, 2, 3, 4, 5, NONE};
        for (int x = 0; x < entries.length; x++) {
            due("THE JOURNAL " + x, h.where(x), entries[x]);
        }
        due("SLOTS", h.where(145), 9);
        due("the last SECTOR", h.where(255), NONE);
        due("L", h.where(256), -15);
        due("-1", h.where(-1), -15);
        due("most", h.where(Integer.MAX_VALUE), -15);
        due("least", h.where(Integer.MIN_VALUE), -15);
        h.mode(1, 1);
        due("DIRTY alone", h.where(82), 8);
        h.sync();
        due("the newer one", h.where(82), 13);
        h.cleanTimes(19);
        due("brought to its HOME", h.where(3), NONE);
        due("of another band", h.where(82), 13);
    }

    @Sentence(of = "34", is = "A band's MARK; -15 no band.")
    static void mark() {
        House h = House.one();
        for (int band : new int[] {-1, 4, 5, Integer.MIN_VALUE, Integer.MAX_VALUE}) {
            due("mark " + band, h.mark(band), -15);
        }
        for (int band = 0; band < 4; band++) {
            due("mark " + band, h.mark(band), 0);
        }
        h.lay(0, "l", "x");
        due("STREAMED", h.mark(3), 10);
        h.cleanTimes(19);
        due("DONE", h.mark(0), 10);
        due("neither", h.mark(1), 0);
        h.restore();
        due("still", h.mark(3), 10);
    }

    @Sentence(of = "35", is = "WRITES that were done: 0 ENTRIES, 1 in bands, 2 in SCRATCH, 3 RECORDS; 4 how often a band was "
        + "DONE, 10 how often something was COMMITTED, 11 how many SECTORS were read that were destroyed or TORN (by "
        + "other than the search for ENTRIES and RECORDS), 12 SECTORS of bands and SCRATCH that are destroyed or TORN "
        + "now, 13 L; these also when OFF.")
    static void countsAlways() {
        House h = House.one();
        h.cleanTimes(20);
        h.clean();
        h.power(1 + 9);
        due("CUT", h.lay(0, "l", "x"), OFF);
        // PICK to DONE: 64 in SCRATCH, 64 in the band, 3 RECORDS; PICK and a MERGE; a RECORD and 9 in a band.
        int[][] rows = {{0, 10}, {1, 64 + 9}, {2, 64 + 8}, {3, 3 + 1 + 1}, {4, 1}, {10, 1}, {11, 0}, {12, 8 + 7 + 8},
            {13, 256}};
        for (int[] row : rows) {
            due("count " + row[0] + " when OFF", h.count(row[0]), row[1]);
        }
        h.restore();
        int[][] later = {{0, 14}, {1, 64 + 9 + 64}, {2, 64 + 8}, {3, 6}, {4, 1}, {10, 1}, {11, 0}, {12, 8}, {13, 256}};
        for (int[] row : later) {
            due("count " + row[0] + " when on", h.count(row[0]), row[1]);
        }
    }

    @Sentence(of = "35", is = "5 FREE, 6 LIVE ENTRIES, 7 DIRTY, 8 free BLOCKS, 9 free NODES, 14 the CLEANER's band (NONE "
        + "idle), 15 the KIND that its next STEP has. NONE for another what.")
    static void countsWhenOn() {
        House h = House.small();
        int[][] first = {{5, 64}, {6, 0}, {7, 0}, {8, 111}, {9, 63}, {14, NONE}, {15, 0}};
        for (int[] row : first) {
            due("count " + row[0] + " at first", h.count(row[0]), row[1]);
        }
        h.make(0, "a");
        h.put(1, 0, "x");
        h.sync();
        h.mode(0, 1);
        h.clean();
        int[][] later = {{5, 64 - 12}, {6, 12}, {7, 1}, {8, 109}, {9, 62}, {14, 0}, {15, 3}};
        for (int[] row : later) {
            due("count " + row[0], h.count(row[0]), row[1]);
        }
        for (int what : new int[] {-1, 16, 99, Integer.MIN_VALUE, Integer.MAX_VALUE}) {
            due("count " + what, h.count(what), NONE);
        }
        House f = House.small().leaveFree(0);
        due("no free BLOCKS", f.count(8), 0);
        House n = House.small().files(48);
        n.drop(0, "f0");
        n.dir(0, "d");
        for (int i = 0; i < 15; i++) {
            n.make(1, "g" + i);
        }
        due("no free NODES", n.count(9), 0);
    }

    public static void main(String[] args) throws IllegalAccessException {
        run(CallsEdgesTest.class);
    }
}
