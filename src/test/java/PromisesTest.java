import java.nio.charset.StandardCharsets;

/** The promises one by one: ordinary inputs, the edges that the document names, and wrong inputs. */
public final class PromisesTest {
    static final int NONE = -1;
    static final int OFF = -99;

    static int wrong = 0;
    static int done = 0;
    static int promise = 0;

    static void due(String what, long got, long want) {
        done++;
        if (got != want) {
            wrong++;
            System.out.println("promise " + promise + ": " + what + " answered " + got + ", due is " + want);
        }
    }

    static void due(String what, boolean got, boolean want) {
        due(what, got ? 1 : 0, want ? 1 : 0);
    }

    static long n(String text) {
        long name = 0;
        for (int i = 0; i < text.length(); i++) {
            name |= (long) text.charAt(i) << 8 * i;
        }
        return name;
    }

    static ShingleHouse feed(ShingleHouse x, String text) {
        byte[] bytes = text.getBytes(StandardCharsets.ISO_8859_1);
        for (int at = 0; at < bytes.length; at += 20) {
            int[] w = new int[5];
            for (int i = 0; i < 20 && at + i < bytes.length; i++) {
                w[i / 4] |= (bytes[at + i] & 255) << 24 - 8 * (i % 4);
            }
            x.feed(w[0], w[1], w[2], w[3], w[4]);
        }
        x.end(bytes.length);
        return x;
    }

    /** So many bytes, all of them 'x'. */
    static ShingleHouse feed(ShingleHouse x, int bytes) {
        return feed(x, "x".repeat(bytes));
    }

    static int put(ShingleHouse x, int file, int at, String text) {
        return feed(x, text).put(file, at);
    }

    static int put(ShingleHouse x, int file, int at, int bytes) {
        return feed(x, bytes).put(file, at);
    }

    static int point(ShingleHouse x, int dir, String name, String text) {
        return feed(x, text).point(dir, n(name));
    }

    static int walk(ShingleHouse x, int dir, String path) {
        return feed(x, path).walk(dir);
    }

    /** 256 SECTORS in bands of 64, BLOCKS from 145 on: 111 of them. */
    static ShingleHouse small() {
        return new ShingleHouse(4, 8, 1, 64);
    }

    /** A FILE (NODE 1) named a, and a CUT at the COMMIT of it. */
    static ShingleHouse off() {
        ShingleHouse x = small();
        x.make(0, n("a"));
        x.power(0);
        x.sync();
        return x;
    }

    /** A DIRECTORY (NODE 1) of user 3, named d, into which others may READ and GO, and a FILE of his in it (NODE 2). */
    static ShingleHouse owned() {
        ShingleHouse x = small();
        x.as(3);
        x.dir(0, n("d"));
        x.make(1, n("f"));
        return x;
    }

    static void fillRoot(ShingleHouse x) {
        for (int i = 0; i < 48; i++) {
            due("make " + i, x.make(0, n("f" + i)), i + 1);
        }
    }

    /** Leaves so many BLOCKS free: FILES r0, r1, .. have the others, 45 each; the NODE of the last one. */
    static int leaveFree(ShingleHouse x, int blocks) {
        int file = NONE;
        for (int i = 0; i < 3 && x.count(8) > blocks; i++) {
            file = x.make(0, n("r" + i));
            for (int piece = 0; x.count(8) > blocks && piece < 44; piece++) {
                put(x, file, 64 * piece, "r");
            }
        }
        x.sync();
        due("free BLOCKS", x.count(8), blocks);
        return file;
    }

    static void promise1() {
        due("L, least", new ShingleHouse(0, -5, 0, 0).count(13), 256);
        due("L, most", new ShingleHouse(9, 33, 5, 257).count(13), 2048);
        due("L", new ShingleHouse(5, 9, 2, 100).count(13), 360);
        due("C, least", new ShingleHouse(4, 8, 1, 63).count(5), 64);
        due("C, most", new ShingleHouse(4, 8, 1, Integer.MAX_VALUE).count(5), 256);
        due("C", new ShingleHouse(4, 8, 1, 100).count(5), 100);
        int[][] shingles = {{Integer.MIN_VALUE, 1}, {0, 1}, {1, 1}, {3, 3}, {4, 4}, {5, 4}};
        for (int[] s : shingles) {
            ShingleHouse x = new ShingleHouse(4, 8, s[0], 64);
            x.power(1);
            due("lay", feed(x, "a").lay(0, n("a")), OFF);
            due("destroyed with S " + s[0], x.count(12), 1 + 8 * s[1]);
        }
        ShingleHouse x = small();
        due("power", x.power(-1), true);
        due("NODE 0", x.kind(0), 2);
        due("names", x.size(0), 0);
        due("owner", x.rights(0, 0), 0);
        due("mode", x.rights(0, 1), 63);
        due("free NODES", x.count(9), 63);
        due("free BLOCKS", x.count(8), 111);
        due("restore", x.restore(), 0);
        due("root behind it", x.kind(0), 2);
        for (int what : new int[] {0, 1, 2, 3, 4, 6, 7, 10, 11, 12, 15}) {
            due("count " + what, x.count(what), 0);
        }
        due("CLEANER", x.count(14), NONE);
    }

    static void promise2() {
        ShingleHouse x = small();
        x.make(0, n("a"));
        due("feed", x.feed(0x01020304, 0x05060708, 0xFFFEFDFC, 0, 0x80000000), true);
        due("put", x.put(1, 0), 20);
        int[] bytes = {1, 2, 3, 4, 5, 6, 7, 8, 255, 254, 253, 252, 0, 0, 0, 0, 128, 0, 0, 0};
        for (int i = 0; i < 20; i++) {
            due("byte " + i, x.byteAt(1, i), bytes[i]);
        }
        for (int i = 0; i < 64; i++) {
            due("feed " + i, x.feed(i, i, i, i, i), true);
        }
        due("feed beyond 1280", x.feed(-1, -1, -1, -1, -1), false);
        due("end 1261", x.end(1261), true);
        due("feed beyond 1280 from 1261", x.feed(-1, -1, -1, -1, -1), false);
        due("end 1260", x.end(1260), true);
        due("feed to 1280", x.feed(-1, -1, -1, -1, -1), true);
        due("put", x.put(1, 0), 1280);
        due("byte 1259", x.byteAt(1, 1259), 62);
        due("byte 1260", x.byteAt(1, 1260), 255);
        ShingleHouse y = off();
        due("feed when OFF", y.feed(0x41424344, 0, 0, 0, 0), true);
        y.restore();
        y.make(0, n("b"));
        due("put behind it", y.put(1, 0), 20);
        due("byte of it", y.byteAt(1, 1), 0x42);
    }

    static void promise3() {
        ShingleHouse x = small();
        due("end 0 of none", x.end(0), true);
        due("end 1 of none", x.end(1), false);
        x.feed(1, 2, 3, 4, 5);
        due("end below 0", x.end(-1), false);
        due("end beyond", x.end(21), false);
        due("end all", x.end(20), true);
        due("end fewer", x.end(4), true);
        due("end more again", x.end(5), false);
        x.make(0, n("a"));
        due("put what is left", x.put(1, 0), 4);
        due("the first ones", x.byteAt(1, 3), 1);
        due("used up", x.end(1), false);
        ShingleHouse y = off();
        y.feed(1, 1, 1, 1, 1);
        due("end when OFF", y.end(3), true);
        due("end beyond when OFF", y.end(4), false);
    }

    static void promise4() {
        ShingleHouse x = small();
        due("first", x.as(5), 0);
        due("below", x.as(-1), -15);
        due("above", x.as(16), -15);
        due("still", x.as(15), 5);
        x.restore();
        due("behind a RESTORE", x.as(0), 15);
        ShingleHouse y = off();
        due("OFF", y.as(3), OFF);
        y.restore();
        due("nothing happened", y.as(1), 0);
    }

    static void promise5() {
        ShingleHouse x = small();
        due("make", x.make(0, n("a")), 1);
        due("DIRTY: two NODES, THE MAP, a BLOCK", x.count(7), 4);
        due("make", x.make(0, n("az09-_.z")), 2);
        due("DIRTY", x.count(7), 5);
        due("kind", x.kind(1), 1);
        due("size", x.size(1), 0);
        due("links", x.links(1), 1);
        due("owner", x.rights(1, 0), 0);
        due("mode", x.rights(1, 1), 52);
        due("there", x.make(0, n("a")), -13);
        due("a FILE", x.make(1, n("b")), -10);
        due("free", x.make(3, n("b")), -10);
        due("below", x.make(-1, n("b")), -10);
        due("above", x.make(64, n("b")), -10);
        due("-10 ahead of -11", x.make(64, 0), -10);
        long[] none = {0, n("A"), n("a\0b"), n("a/"), n("{"), n("`"), n(":"), n("\0a"), -1, 1L << 63, n("abcdefg\u0080")};
        for (long name : none) {
            due("name " + name, x.make(0, name), -11);
        }
        due(".", x.make(0, n(".")), 3);
        due("..", x.make(0, n("..")), 4);
        due("fifth SLOT", x.make(0, n("e")), 5);
        due("second BLOCK", x.block(0, 1), 146);
        x.drop(0, n("az09-_.z"));
        due("lowest NODE", x.make(0, n("g")), 2);
        due("check", x.check(), 0);
        due("OFF", off().make(0, n("b")), OFF);
        promise5Rights();
        promise5Full();
        promise5Commit();
    }

    static void promise5Rights() {
        ShingleHouse x = owned();
        due("own", x.rights(2, 0), 3);
        x.as(4);
        due("no WRITE", x.make(1, n("g")), -20);
        due("-11 ahead of -20", x.make(1, 0), -11);
        due("-20 ahead of -13", x.make(1, n("f")), -20);
        x.as(3);
        due("WRITE alone of others", x.mode(1, 56 + 2), 61);
        x.as(4);
        due("no GO", x.make(1, n("g")), -20);
        x.as(3);
        x.mode(1, 3);
        due("the OWNER has none of others' rights", x.make(1, n("g")), -20);
        x.as(4);
        due("others", x.make(1, n("g")), 3);
        x.as(0);
        x.mode(1, 0);
        due("0 may all", x.make(1, n("h")), 4);
    }

    static void promise5Full() {
        ShingleHouse x = small();
        fillRoot(x);
        due("no SLOT", x.make(0, n("more")), -16);
        due("-13 ahead of -16", x.make(0, n("f7")), -13);
        x.drop(0, n("f9"));
        due("the SLOT again", x.dir(0, n("d")), 10);
        for (int i = 0; i < 15; i++) {
            due("make in it " + i, x.make(10, n("g" + i)), 49 + i);
        }
        due("free NODES", x.count(9), 0);
        due("no NODE", x.make(10, n("more")), -16);
        due("check", x.check(), 0);

        ShingleHouse y = small();
        leaveFree(y, 0);
        due("the last SLOT", y.make(0, n("d")), 4);
        due("no BLOCK", y.make(0, n("e")), -16);
        due("nothing is changed", y.count(9), 59);
    }

    static void promise5Commit() {
        ShingleHouse x = new ShingleHouse(8, 32, 4, 256);
        x.make(0, n("a"));
        x.make(0, n("b"));
        // NODES of the root and two FILES, THE MAP, a BLOCK of SLOTS; 12 + 12 PIECES; 11 through an INDEX of one.
        put(x, 1, 0, 768);
        put(x, 2, 0, 768);
        put(x, 1, 768, 640);
        due("DIRTY", x.count(7), 40);
        due("make at 40", x.make(0, n("a")), -13);
        due("no COMMIT", x.count(10), 0);
        put(x, 1, 1408, 64);
        due("DIRTY", x.count(7), 41);
        due("refused", x.make(0, 0), -11);
        due("COMMIT all the same", x.count(10), 1);
        due("DIRTY", x.count(7), 0);
        due("ENTRIES: 2 + 41 + 1 + 41", x.count(0), 85);
    }

    static void promise6() {
        ShingleHouse x = small();
        due("dir", x.dir(0, n("d")), 1);
        due("DIRTY", x.count(7), 4);
        due("kind", x.kind(1), 2);
        due("size", x.size(1), 0);
        due("no BLOCK", x.block(1, 0), NONE);
        due("parent", x.parent(1), 0);
        due("mode", x.rights(1, 1), 61);
        due("links", x.links(1), -14);
        due("within", x.dir(1, n("d")), 2);
        due("parent", x.parent(2), 1);
        due("its BLOCK", x.block(1, 0), 146);
        due("DIRTY: a NODE and a BLOCK more", x.count(7), 6);
        due("there", x.dir(0, n("d")), -13);
        due("no DIRECTORY", x.dir(7, n("d")), -10);
        due("no NAME", x.dir(0, n("D")), -11);
        x.as(2);
        due("may not", x.dir(1, n("e")), -20);
        x.as(0);
        due("check", x.check(), 0);
        ShingleHouse y = small();
        fillRoot(y);
        due("no SLOT", y.dir(0, n("d")), -16);
        due("OFF", off().dir(0, n("d")), OFF);
    }

    static void promise7() {
        ShingleHouse x = new ShingleHouse(5, 8, 1, 80);
        due("lay", feed(x, "abc").lay(0, n("big")), 1);
        due("tape used up", x.end(1), false);
        due("kind", x.kind(1), 3);
        due("size", x.size(1), 4096);
        due("links", x.links(1), 1);
        due("mode", x.rights(1, 1), 52);
        due("highest band", x.block(1, 0), 256);
        for (int i = 0; i < 12; i++) {
            due("byte " + i, x.byteAt(1, i * 371), "abc".charAt(i * 371 % 3));
        }
        due("DIRTY: two NODES, THE MAP, a BLOCK of SLOTS", x.count(7), 4);
        due("WRITES in bands", x.count(1), 64);
        due("RECORDS", x.count(3), 2);
        due("check", x.check(), 0);
        due("-13 ahead of -15", x.lay(0, n("big")), -13);
        due("no tape", x.lay(0, n("b")), -15);
        due("no DIRECTORY", feed(x, "a").lay(1, n("b")), -10);
        due("tape used up", x.end(1), false);
        due("no NAME", feed(x, "a").lay(0, n("B")), -11);
        due("second", feed(x, "d").lay(0, n("b")), 2);
        due("its band", x.block(2, 63), 255);
        due("no band", feed(x, "d").lay(0, n("c")), -16);
        due("given back", x.drop(0, n("b")), 64);
        due("free now, and as COMMITTED last", feed(x, "d").lay(0, n("c")), 2);
        x.sync();
        x.drop(0, n("c"));
        due("free now, but not as COMMITTED last", feed(x, "d").lay(0, n("c")), -16);
        x.sync();
        due("free now", feed(x, "d").lay(0, n("c")), 2);
        due("check", x.check(), 0);
        ShingleHouse o = owned();
        o.as(4);
        due("may not", feed(o, "d").lay(1, n("c")), -20);
        ShingleHouse y = off();
        due("OFF", feed(y, "abc").lay(0, n("b")), OFF);
        due("tape used up", y.end(1), false);
        promise7Full();
        promise7Cleaner();
        promise7Cut();
        promise7Anew();
    }

    /** What THE CACHE still has of a band is older than what is STREAMED there. */
    static void promise7Anew() {
        ShingleHouse x = new ShingleHouse(4, 8, 1, 256);
        feed(x, "a").lay(0, n("a"));
        x.sync();
        put(x, 1, 0, "old");
        x.sync();
        due("LIVE", x.where(192) >= 0, true);
        x.drop(0, n("a"));
        x.sync();
        due("LIVE still", x.where(192) >= 0, true);
        feed(x, "b").lay(0, n("b"));
        due("not LIVE", x.where(192), NONE);
        due("byte", x.byteAt(1, 0), 'b');
        x.sync();
        put(x, 1, 1, "new");
        x.sync();
        due("LIVE", x.where(192) >= 0, true);
        due("byte", x.byteAt(1, 0), 'b');
        due("byte", x.byteAt(1, 1), 'n');
        x.restore();
        due("byte", x.byteAt(1, 1), 'n');
        due("byte", x.byteAt(1, 4), 'b');
    }

    static void promise7Full() {
        ShingleHouse x = small();
        fillRoot(x);
        x.sync();
        int records = x.count(3);
        due("no SLOT", feed(x, "a").lay(0, n("a")), -16);
        due("no RECORD for it", x.count(3), records);
        ShingleHouse y = small();
        // BLOCKS 145 .. 191 lie below the last band: with all of those used none is left outside of it.
        int file = leaveFree(y, 64);
        for (int i = 0; i < 2; i++) {
            due("SLOTS", y.make(0, n("s" + i)), 3 + i);
        }
        due("no BLOCK outside of the band", feed(y, "a").lay(0, n("a")), -16);
        due("a BLOCK outside of it", y.cut(file, 0), 1);
        y.sync();
        due("lay", feed(y, "a").lay(0, n("a")), 5);
        due("free", y.count(8), 0);
        due("check", y.check(), 0);
    }

    static void promise7Cleaner() {
        ShingleHouse x = new ShingleHouse(5, 8, 1, 256);
        feed(x, "q").lay(0, n("q"));
        x.sync();
        for (int i = 0; i < 4; i++) {
            put(x, 1, i * 1024, 1024);
            x.sync();
        }
        x.drop(0, n("q"));
        x.sync();
        due("PICK", x.clean(), 2);
        due("the last band", x.count(14), 4);
        due("lay", feed(x, "a").lay(0, n("a")), 1);
        due("the band ahead of it", x.block(1, 0), 192);
        due("none but that of the CLEANER", feed(x, "b").lay(0, n("b")), -16);
    }

    static void promise7Cut() {
        ShingleHouse x = small();
        x.power(0);
        due("CUT at the first RECORD", feed(x, "a").lay(0, n("a")), OFF);
        due("nothing to do", x.restore(), 0);
        due("MARK", x.mark(3), 0);
        x.make(0, n("f"));
        x.sync();
        x.power(30);
        due("CUT in TRACK 3", feed(x, "a").lay(0, n("a")), OFF);
        due("TORN, what TRACK 2 destroyed, TRACK 4", x.count(12), 1 + 2 + 8);
        due("zeros, a RECORD, and what was COMMITTED", x.restore(), 64 + 1 + 4);
        due("destroyed", x.count(12), 0);
        due("MARK", x.mark(3), 10);
        due("free band", x.count(8), 110);
        due("no NAME", x.find(0, n("a")), -12);
        x.power(65);
        due("CUT at the second RECORD", feed(x, "a").lay(0, n("a")), OFF);
        due("destroyed", x.count(12), 0);
        due("restore", x.restore(), 69);
        due("check", x.check(), 0);
    }

    static void promise8() {
        ShingleHouse x = small();
        due("point", point(x, 0, "p", "t"), 1);
        due("kind", x.kind(1), 4);
        due("size", x.size(1), 1);
        due("byte", x.byteAt(1, 0), 't');
        due("mode", x.rights(1, 1), NONE);
        due("links", x.links(1), -14);
        due("tape used up", x.end(1), false);
        String longest = "0123456789012345678901234567890123456789";
        due("40", point(x, 0, "q", longest), 2);
        due("last byte", x.byteAt(2, 39), '9');
        due("behind", x.byteAt(2, 40), NONE);
        due("41", point(x, 0, "r", longest + "x"), -15);
        due("tape used up", x.end(1), false);
        due("none", point(x, 0, "r", ""), -15);
        due("-13 ahead of -15", point(x, 0, "q", ""), -13);
        due("no NAME", point(x, 0, "Q", "a"), -11);
        due("no DIRECTORY", point(x, 1, "q", "a"), -10);
        due("a BLOCK", x.block(1, 0), NONE);
        x.sync();
        x.restore();
        due("still there", x.byteAt(2, 38), '8');
        ShingleHouse o = owned();
        o.as(4);
        due("may not", point(o, 1, "q", "a"), -20);
        due("-20 ahead of -15", point(o, 1, "q", ""), -20);
        due("owner", point(o, 0, "mine", "a"), 3);
        due("owner", o.rights(3, 0), 4);
        ShingleHouse y = small();
        fillRoot(y);
        due("-15 ahead of -16", point(y, 0, "p", ""), -15);
        due("no SLOT", point(y, 0, "p", "a"), -16);
        ShingleHouse z = off();
        due("OFF", point(z, 0, "p", "a"), OFF);
        due("tape used up", z.end(1), false);
    }

    static void promise9() {
        ShingleHouse x = small();
        x.make(0, n("a"));
        x.dir(0, n("d"));
        point(x, 0, "p", "a");
        feed(x, "l").lay(0, n("l"));
        x.sync();
        due("link", x.link(2, n("b"), 1), 2);
        due("DIRTY: two NODES, THE MAP, a BLOCK", x.count(7), 4);
        due("links", x.links(1), 2);
        due("the same", x.find(2, n("b")), 1);
        due("a LAID FILE", x.link(2, n("l"), 4), 2);
        due("a DIRECTORY", x.link(2, n("x"), 2), -14);
        due("a POINTER", x.link(2, n("x"), 3), -14);
        due("free", x.link(2, n("x"), 9), -14);
        due("no number", x.link(2, n("x"), 64), -14);
        due("-14 ahead of -13", x.link(2, n("b"), -1), -14);
        due("there", x.link(2, n("b"), 1), -13);
        due("no DIRECTORY", x.link(1, n("x"), 1), -10);
        due("no NAME", x.link(2, n(" "), 1), -11);
        x.mode(1, 0);
        x.mode(2, 63);
        x.as(1);
        due("by the DIRECTORY's rights alone", x.link(2, n("c"), 1), 3);
        x.as(0);
        x.mode(2, 61);
        x.as(1);
        due("may not", x.link(2, n("e"), 1), -20);
        due("-20 ahead of -14", x.link(2, n("e"), 2), -20);
        x.as(0);
        due("check", x.check(), 0);
        due("OFF", off().link(0, n("b"), 1), OFF);

        ShingleHouse y = small();
        y.make(0, n("f"));
        for (int d = 0; d < 6; d++) {
            y.dir(0, n("d" + d));
        }
        for (int i = 0; i < 254; i++) {
            due("link " + i, y.link(2 + i / 48, n("l" + i), 1), i + 2);
        }
        due("there", y.link(7, n("l253"), 1), -13);
        due("255 are most", y.link(7, n("more"), 1), -15);
        due("one less", y.drop(7, n("l253")), 0);
        due("255 again", y.link(7, n("more"), 1), 255);
        due("-15 ahead of -16", y.link(2, n("more"), 1), -15);
        y.drop(7, n("more"));
        due("no SLOT", y.link(2, n("more"), 1), -16);
        due("check", y.check(), 0);
    }

    static void promise10() {
        ShingleHouse x = small();
        x.make(0, n("a"));
        x.sync();
        due("put", put(x, 1, 0, "hello"), 5);
        due("DIRTY: NODE, THE MAP, a BLOCK", x.count(7), 3);
        due("tape used up", x.end(1), false);
        x.sync();
        due("put the same", put(x, 1, 1, "ello"), 4);
        due("DIRTY: the BLOCK", x.count(7), 1);
        due("a HOLE, and a PIECE behind it", put(x, 1, 130, "z"), 1);
        due("size", x.size(1), 131);
        due("HOLE", x.block(1, 1), NONE);
        due("zeros", x.byteAt(1, 5), 0);
        due("zeros", x.byteAt(1, 64), 0);
        due("zeros", x.byteAt(1, 129), 0);
        due("byte", x.byteAt(1, 130), 'z');
        x.sync();
        due("into the HOLE", put(x, 1, 70, "y"), 1);
        due("DIRTY: NODE, THE MAP, the BLOCK", x.count(7), 3);
        due("-15 below 0", put(x, 1, -1, "y"), -15);
        due("tape used up", x.end(1), false);
        due("-15 beyond", put(x, 1, 68352, "y"), -15);
        due("-15 far beyond", put(x, 1, Integer.MAX_VALUE, "yyyy"), -15);
        due("none at the most", put(x, 1, 68352, ""), 0);
        due("none beyond", put(x, 1, 68353, ""), -15);
        due("none below 0", put(x, 1, -1, ""), -15);
        due("none changes nothing", x.size(1), 131);
        due("a DIRECTORY", put(x, 0, 0, "y"), -14);
        due("free", put(x, 2, 0, "y"), -14);
        due("no number", put(x, 99, 0, ""), -14);
        due("a POINTER", put(x, point(x, 0, "p", "a"), 0, "y"), -14);
        due("check", x.check(), 0);
        ShingleHouse o = owned();
        o.as(4);
        due("may not", put(o, 2, -1, "y"), -20);
        due("may not, without bytes", put(o, 2, 0, ""), -20);
        o.as(3);
        o.mode(2, 16);
        due("WRITE alone", put(o, 2, 0, "y"), 1);
        ShingleHouse z = off();
        due("OFF", put(z, 1, 0, "a"), OFF);
        due("tape used up", z.end(1), false);
        promise10Far();
        promise10Laid();
        promise10Full();
        promise10Map();
    }

    static void promise10Far() {
        ShingleHouse x = new ShingleHouse(8, 32, 1, 256);
        x.make(0, n("a"));
        x.sync();
        due("put around PIECE 12", put(x, 1, 64 * 11, 128), 128);
        due("PIECE 11", x.block(1, 11), 149);
        due("INDEX", x.block(1, -1), 150);
        due("PIECE 12", x.block(1, 12), 151);
        due("DIRTY: NODE, THE MAP, three BLOCKS", x.count(7), 5);
        x.sync();
        due("PIECE 43", put(x, 1, 64 * 43, "a"), 1);
        due("DIRTY: NODE (size), THE MAP, INDEX, a BLOCK", x.count(7), 4);
        due("PIECE 44", put(x, 1, 64 * 44 + 63, "bc"), 2);
        due("DOUBLE", x.block(1, -2), 153);
        due("its INDEX 0", x.block(1, -3), 154);
        due("PIECE 44", x.block(1, 44), 155);
        due("PIECE 45", x.block(1, 45), 156);
        x.sync();
        due("PIECE 46", put(x, 1, 64 * 46, "d"), 1);
        due("DIRTY: NODE (size), THE MAP, INDEX 0, a BLOCK", x.count(7), 4);
        x.sync();
        due("the last byte", put(x, 1, 68351, "e"), 1);
        due("size", x.size(1), 68352);
        due("INDEX 31", x.block(1, -34), 158);
        due("PIECE 1067", x.block(1, 1067), 159);
        due("DIRTY: NODE (size), THE MAP, DOUBLE, INDEX 31, a BLOCK", x.count(7), 5);
        x.sync();
        due("PIECE 1066", put(x, 1, 64 * 1066, "f"), 1);
        due("DIRTY: THE MAP, INDEX 31, a BLOCK", x.count(7), 3);
        due("check", x.check(), 0);
        x.sync();
        x.restore();
        due("byte", x.byteAt(1, 68351), 'e');
        due("byte", x.byteAt(1, 64 * 45), 'c');
        due("check", x.check(), 0);
    }

    static void promise10Laid() {
        ShingleHouse x = small();
        feed(x, "l").lay(0, n("l"));
        x.sync();
        due("into a LAID FILE", put(x, 1, 60, "12345"), 5);
        due("DIRTY: two BLOCKS", x.count(7), 2);
        due("beyond it", put(x, 1, 4092, "12345"), -15);
        due("to its end", put(x, 1, 4091, "12345"), 5);
        due("none at its end", put(x, 1, 4096, ""), 0);
        due("none beyond it", put(x, 1, 4097, ""), -15);
        x.sync();
        x.restore();
        due("byte", x.byteAt(1, 64), '5');
        due("byte", x.byteAt(1, 65), 'l');
        due("byte", x.byteAt(1, 4095), '5');
        due("size", x.size(1), 4096);
    }

    static void promise10Full() {
        ShingleHouse x = small();
        leaveFree(x, 3);
        due("make", x.make(0, n("b")), 4);
        x.sync();
        due("INDEX and three BLOCKS", put(x, 4, 64 * 12, 129), -16);
        due("nothing is changed", x.count(7), 0);
        due("DOUBLE, INDEX, two BLOCKS", put(x, 4, 64 * 44, 65), -16);
        due("DOUBLE, INDEX, a BLOCK", put(x, 4, 64 * 44, 64), 64);
        due("none is free", x.count(8), 0);
        due("no BLOCK", put(x, 4, 0, "a"), -16);
        due("-15 ahead of -16", put(x, 4, -1, "a"), -15);
        due("none is wanted", put(x, 4, 64 * 44, "a"), 1);
        due("check", x.check(), 0);
        x.cut(4, 0);
        due("DOUBLE, INDEX 1, a BLOCK", put(x, 4, 64 * 76, 64), 64);
        due("none is free", x.count(8), 0);
        x.cut(4, 0);
        put(x, 4, 0, "a");
        due("DOUBLE, INDEX 0, a BLOCK, of which two are there", put(x, 4, 64 * 44, "a"), -16);
        put(x, 4, 64, "a");
        due("INDEX, a BLOCK, of which one is there", put(x, 4, 64 * 12, "a"), -16);
        due("one is there", put(x, 4, 64 * 11, "a"), 1);
        due("check", x.check(), 0);
    }

    /** BLOCKS from 512 on are told by THE MAP's second SECTOR and those behind it. */
    static void promise10Map() {
        ShingleHouse x = new ShingleHouse(8, 32, 1, 256);
        for (int i = 0; i < 7; i++) {
            due("lay", feed(x, "a").lay(0, n("l" + i)), i + 1);
        }
        due("a band of 512 and more", x.block(6, 0), 512);
        x.make(0, n("f"));
        x.make(0, n("g"));
        for (int i = 0; x.count(8) > 1 && i < 60; i++) {
            put(x, i < 20 ? 8 : 9, 128 * (i % 20) + 60, 8);
        }
        while (x.count(8) > 0) {
            put(x, 9, 64 * (60 + x.count(8)), 1);
        }
        x.sync();
        due("given back", x.drop(0, n("l5")), 256);
        due("DIRTY: NODE, SLOTS, THE MAP's second", x.count(7), 3);
        due("DIRTY now", x.sync(), 3);
        int size = x.size(9);
        put(x, 9, (size + 63) / 64 * 64, 64);
        due("the lowest", x.block(9, (size + 63) / 64), 512);
        due("lay: not that band", feed(x, "a").lay(0, n("m")), -16);
        due("check", x.check(), 0);
        x.sync();
        due("THE MAP's second", x.where(81) >= 0, true);
        x.restore();
        due("free", x.count(8), 255);
        due("check", x.check(), 0);
    }

    static void promise11() {
        ShingleHouse x = new ShingleHouse(8, 32, 1, 256);
        x.make(0, n("a"));
        put(x, 1, 64 * 10, 64 * 4);
        put(x, 1, 64 * 43, 64 * 3);
        put(x, 1, 64 * 76, "z");
        x.sync();
        due("below 0", x.cut(1, -1), -15);
        due("above", x.cut(1, 64 * 76 + 2), -15);
        due("the size it has", x.cut(1, 64 * 76 + 1), 0);
        due("nothing is changed", x.count(7), 0);
        due("PIECE 76 and INDEX 1", x.cut(1, 64 * 76), 2);
        due("DIRTY: NODE, THE MAP, DOUBLE", x.count(7), 3);
        x.sync();
        due("PIECE 45", x.cut(1, 64 * 44 + 32), 1);
        due("DIRTY: NODE, THE MAP, INDEX 0, PIECE 44", x.count(7), 4);
        due("what is behind", put(x, 1, 64 * 44 + 40, "q"), 1);
        due("zeros", x.byteAt(1, 64 * 44 + 32), 0);
        x.sync();
        due("PIECE 44, INDEX 0, DOUBLE", x.cut(1, 64 * 44), 3);
        due("DIRTY: NODE, THE MAP", x.count(7), 2);
        due("no DOUBLE", x.block(1, -2), NONE);
        x.sync();
        due("in PIECE 43, which stays", x.cut(1, 64 * 43 + 1), 0);
        due("DIRTY: NODE, BLOCK", x.count(7), 2);
        x.sync();
        due("PIECE 43", x.cut(1, 64 * 30 + 1), 1);
        due("DIRTY: NODE, THE MAP, INDEX, no HOLE", x.count(7), 3);
        x.sync();
        due("PIECES 12, 13, and INDEX", x.cut(1, 64 * 12), 3);
        due("DIRTY: NODE, THE MAP", x.count(7), 2);
        due("PIECES 10, 11", x.cut(1, 0), 2);
        due("size", x.size(1), 0);
        due("check", x.check(), 0);
        feed(x, "l").lay(0, n("l"));
        due("a LAID FILE", x.cut(2, 0), -14);
        due("a DIRECTORY", x.cut(0, 0), -14);
        due("free", x.cut(9, 0), -14);
        due("no number", x.cut(-1, -1), -14);
        ShingleHouse o = owned();
        o.as(4);
        due("may not", o.cut(2, -1), -20);
        due("OFF", off().cut(1, 0), OFF);

        ShingleHouse y = small();
        y.make(0, n("a"));
        put(y, 1, 0, 64);
        y.cut(1, 10);
        put(y, 1, 70, "a");
        due("zeros behind a cut", y.byteAt(1, 10), 0);
        due("what stays", y.byteAt(1, 9), 'x');
    }

    static void promise12() {
        ShingleHouse x = new ShingleHouse(8, 32, 1, 256);
        x.make(0, n("a"));
        put(x, 1, 64 * 11, 128);
        put(x, 1, 64 * 44, "z");
        x.link(0, n("b"), 1);
        x.dir(0, n("d"));
        x.make(2, n("e"));
        feed(x, "l").lay(0, n("l"));
        x.sync();
        due("LINKS left", x.drop(0, n("a")), 0);
        due("DIRTY: NODE, a BLOCK of SLOTS", x.count(7), 2);
        due("links", x.links(1), 1);
        due("gone", x.find(0, n("a")), -12);
        x.sync();
        due("3 PIECES, INDEX, DOUBLE, its INDEX", x.drop(0, n("b")), 6);
        due("DIRTY: NODE, a BLOCK of SLOTS, THE MAP", x.count(7), 3);
        due("free", x.kind(1), 0);
        due("not empty", x.drop(0, n("d")), -17);
        due("drop", x.drop(2, n("e")), 0);
        due("a DIRECTORY's BLOCKS", x.drop(0, n("d")), 1);
        due("a LAID FILE's band", x.drop(0, n("l")), 256);
        due("empty", x.size(0), 0);
        due("the root's BLOCK stays", x.block(0, 0), 148);
        due("a POINTER", point(x, 0, "p", "x"), 1);
        due("itself", x.drop(0, n("p")), 0);
        due("nothing there", x.drop(0, n("p")), -12);
        due("no NAME", x.drop(0, n("P")), -11);
        due("no DIRECTORY", x.drop(1, n("p")), -10);
        due("check", x.check(), 0);
        ShingleHouse o = owned();
        o.as(4);
        due("may not", o.drop(1, n("f")), -20);
        due("-20 ahead of -12", o.drop(1, n("g")), -20);
        due("others drop what isn't theirs", o.drop(0, n("d")), -17);
        due("OFF", off().drop(0, n("a")), OFF);
        // A BLOCK that was changed and is given back is DIRTY no more.
        ShingleHouse y = small();
        y.make(0, n("a"));
        y.sync();
        put(y, 1, 0, 640);
        due("DIRTY", y.count(7), 12);
        due("given back", y.drop(0, n("a")), 10);
        due("DIRTY: NODE, THE MAP, SLOTS", y.count(7), 3);
    }

    static void promise13() {
        ShingleHouse x = small();
        x.make(0, n("a"));
        x.dir(0, n("d"));
        x.dir(2, n("e"));
        x.sync();
        due("the same", x.rename(0, n("a"), 0, n("a")), 1);
        due("nothing is changed", x.count(7), 0);
        due("another NAME", x.rename(0, n("a"), 0, n("b")), 1);
        due("DIRTY: SLOTS", x.count(7), 1);
        due("into another DIRECTORY", x.rename(0, n("b"), 3, n("b")), 1);
        due("DIRTY: SLOTS twice, NODE 3, THE MAP", x.count(7), 4);
        x.sync();
        due("a DIRECTORY", x.rename(2, n("e"), 0, n("e")), 3);
        due("parent", x.parent(3), 0);
        due("DIRTY: SLOTS twice, its NODE", x.count(7), 3);
        due("back", x.rename(0, n("e"), 2, n("e")), 3);
        due("into itself", x.rename(0, n("d"), 2, n("x")), -18);
        due("into what is within it", x.rename(0, n("d"), 3, n("x")), -18);
        due("-18 ahead of -13", x.rename(0, n("d"), 3, n("b")), -18);
        due("no DIRECTORY", x.rename(1, n("d"), 0, n("x")), -10);
        due("no other DIRECTORY", x.rename(0, n("d"), 64, n("x")), -10);
        due("-10 of the other one ahead of -11", x.rename(0, 0, 64, n("x")), -10);
        due("no NAME", x.rename(0, 0, 0, n("x")), -11);
        due("no other NAME", x.rename(0, n("nope"), 0, n("X")), -11);
        due("nothing there", x.rename(0, n("nope"), 0, n("d")), -12);
        due("nothing there under the same NAME", x.rename(0, n("nope"), 0, n("nope")), -12);
        due("check", x.check(), 0);
        due("OFF", off().rename(0, n("a"), 0, n("b")), OFF);
        promise13Onto();
        promise13Rights();
        promise13Full();
    }

    static void promise13Onto() {
        ShingleHouse x = small();
        x.make(0, n("a"));
        x.make(0, n("b"));
        x.dir(0, n("c"));
        x.dir(0, n("d"));
        x.make(4, n("in"));
        x.link(0, n("a2"), 1);
        due("the same NODE", x.rename(0, n("a"), 0, n("a2")), -13);
        due("a FILE onto a DIRECTORY", x.rename(0, n("a"), 0, n("c")), -13);
        due("a DIRECTORY onto a FILE", x.rename(0, n("c"), 0, n("a")), -13);
        due("onto one that isn't empty", x.rename(0, n("c"), 0, n("d")), -17);
        due("onto one with LINKS", x.rename(0, n("b"), 0, n("a")), 2);
        due("one less", x.links(1), 1);
        due("there", x.find(0, n("a")), 2);
        due("gone", x.find(0, n("b")), -12);
        due("onto one with none", x.rename(0, n("a"), 0, n("a2")), 2);
        due("free", x.kind(1), 0);
        due("onto an empty one", x.rename(0, n("d"), 0, n("c")), 4);
        due("free", x.kind(3), 0);
        due("a POINTER itself", point(x, 0, "p", "a"), 1);
        due("onto a FILE", x.rename(0, n("p"), 4, n("in")), 1);
        due("kind", x.kind(1), 4);
        due("there", x.find(4, n("in")), 1);
        due("check", x.check(), 0);
    }

    static void promise13Rights() {
        ShingleHouse o = owned();
        o.make(0, n("r"));
        o.as(4);
        due("may not there", o.rename(1, n("f"), 0, n("f")), -20);
        due("may not into it", o.rename(0, n("r"), 1, n("r")), -20);
        due("-11 of the other one ahead of -20", o.rename(1, n("f"), 0, n("F")), -11);
        due("-20 ahead of -12", o.rename(1, n("nope"), 1, n("nope")), -20);
        due("may", o.rename(0, n("r"), 0, n("s")), 3);
    }

    static void promise13Full() {
        ShingleHouse x = small();
        for (int i = 0; i < 47; i++) {
            x.make(0, n("f" + i));
        }
        x.dir(0, n("d"));
        x.make(48, n("z"));
        x.make(48, n("y"));
        due("no SLOT", x.rename(48, n("z"), 0, n("z")), -16);
        due("-13 ahead of -16", x.rename(48, n("z"), 0, n("d")), -13);
        due("where something was dropped", x.rename(48, n("z"), 0, n("f5")), 49);
        due("in the same DIRECTORY", x.rename(0, n("f7"), 0, n("g7")), 8);
        due("names", x.size(0), 48);
        due("lowest SLOT", x.drop(0, n("f0")), 0);
        x.sync();
        due("into it", x.rename(0, n("f46"), 0, n("last")), 47);
        due("DIRTY: both BLOCKS", x.count(7), 2);
        due("check", x.check(), 0);
    }

    static void promise14() {
        ShingleHouse x = owned();
        due("find", x.find(0, n("d")), 1);
        due("find", x.find(1, n("f")), 2);
        due("nothing there", x.find(1, n("d")), -12);
        due("no NAME", x.find(1, n("D")), -11);
        due("no DIRECTORY", x.find(2, 0), -10);
        due("no number", x.find(-1, n("a")), -10);
        point(x, 0, "p", "d");
        due("a POINTER itself", x.find(0, n("p")), 3);
        x.mode(1, 56 + 6);
        x.as(4);
        due("no GO", x.find(1, n("f")), -20);
        due("-11 ahead of -20", x.find(1, 0), -11);
        due("-20 ahead of -12", x.find(1, n("g")), -20);
        x.as(3);
        x.mode(1, 1);
        due("no GO for the OWNER", x.find(1, n("f")), -20);
        x.as(4);
        due("GO alone", x.find(1, n("f")), 2);
        due("OFF", off().find(0, n("a")), OFF);
    }

    static void promise15() {
        ShingleHouse x = small();
        x.dir(0, n("a"));
        x.dir(1, n("b"));
        x.make(2, n("c"));
        x.make(0, n("eight888"));
        due("walk", walk(x, 0, "a/b/c"), 3);
        due("tape used up", x.end(1), false);
        due("from the root", walk(x, 2, "/a"), 1);
        due("/", walk(x, 2, "/"), 0);
        due("empty", walk(x, 2, ""), 2);
        due(".", walk(x, 2, "."), 2);
        due("..", walk(x, 2, ".."), 1);
        due("the root's PARENT", walk(x, 2, "../../../.."), 0);
        due("parts without bytes", walk(x, 0, "a//b/./"), 2);
        due("behind a FILE", walk(x, 0, "a/b/c/"), -12);
        due("behind a FILE", walk(x, 0, "a/b/c/.."), -12);
        due("-12 ahead of -11", walk(x, 0, "a/b/c/X"), -12);
        due("nothing there", walk(x, 0, "a/x/b"), -12);
        due("no NAME", walk(x, 0, "a/X"), -11);
        due("no NAME", walk(x, 0, "a\0"), -11);
        due("eight bytes", walk(x, 0, "eight888"), 4);
        due("nine bytes", walk(x, 0, "eight8889"), -11);
        due("...", walk(x, 0, "..."), -12);
        due("no DIRECTORY", walk(x, 3, "/"), -10);
        due("tape used up", x.end(1), false);
        due("no number", walk(x, 64, ""), -10);
        x.make(0, n("."));
        due("never come to", walk(x, 0, "."), 0);
        ShingleHouse y = off();
        due("OFF", walk(y, 0, "a"), OFF);
        due("tape used up", y.end(1), false);
        promise15Pointers();
        promise15Rights();
    }

    static void promise15Pointers() {
        ShingleHouse x = small();
        x.dir(0, n("a"));
        x.dir(1, n("b"));
        x.make(2, n("c"));
        point(x, 0, "p", "a/b");
        point(x, 1, "q", "b/c");
        point(x, 2, "r", "/a/q");
        point(x, 2, "up", "..");
        due("by the last part", walk(x, 0, "p"), 2);
        due("parts behind", walk(x, 0, "p/c"), 3);
        due("from where its NAME stands", walk(x, 0, "a/q"), 3);
        due("from the root, through another", walk(x, 0, "p/r"), 3);
        due("behind a FILE", walk(x, 0, "a/q/"), -12);
        due(".. behind a POINTER", walk(x, 0, "p/.."), 1);
        due("a TEXT of ..", walk(x, 0, "p/up/up"), -12);
        due("a TEXT of ..", walk(x, 0, "p/up/b"), 2);
        point(x, 0, "bad", "a/B");
        due("no NAME in a TEXT", walk(x, 0, "bad/x"), -11);
        point(x, 0, "gone", "a/x");
        due("nothing there in a TEXT", walk(x, 0, "gone"), -12);
        point(x, 0, "loop", "loop");
        due("loop", walk(x, 0, "loop"), -19);
        point(x, 0, "here", ".");
        due("eight", walk(x, 0, "here/here/here/here/here/here/here/here"), 0);
        due("nine", walk(x, 0, "here/here/here/here/here/here/here/here/here"), -19);
        due("eight, then a DIRECTORY", walk(x, 0, "here/here/here/here/here/here/here/here/a"), 1);
        due("-12 ahead of -19", walk(x, 0, "here/here/here/here/here/here/here/here/no"), -12);
        point(x, 0, "c1", "p/r");
        due("four at most", walk(x, 0, "c1"), 3);
        point(x, 0, "slash", "a/");
        due("a TEXT with / at its end", walk(x, 0, "slash/b/c"), 3);
    }

    static void promise15Rights() {
        ShingleHouse o = owned();
        o.dir(1, n("sub"));
        o.mode(1, 56 + 6);
        o.as(4);
        due("no GO", walk(o, 0, "d/f"), -20);
        due("-11 ahead of -20", walk(o, 0, "d/F"), -11);
        due("-20 ahead of -12", walk(o, 0, "d/none"), -20);
        due("to it", walk(o, 0, "d"), 1);
        due("no NAME needs no GO", walk(o, 0, "d/./"), 1);
        due("nor does ..", walk(o, 3, ".."), 1);
    }

    static void promise16and17(boolean names) {
        ShingleHouse x = small();
        String[] all = {"b", "a", "ab", "a.", "a-", "a0", "a_", "z", "-", "_", "aaaaaaaa", "aaaaaaab"};
        String[] sorted = {"-", "_", "a", "a-", "a.", "a0", "a_", "aaaaaaaa", "aaaaaaab", "ab", "b", "z"};
        for (int i = 0; i < all.length; i++) {
            x.make(0, n(all[i]));
        }
        for (int k = 0; k < sorted.length; k++) {
            due("place " + k, names ? x.name(0, k) : x.entry(0, k), names ? n(sorted[k]) : x.find(0, n(sorted[k])));
        }
        for (int k : new int[] {-1, 12, 48, Integer.MAX_VALUE, Integer.MIN_VALUE}) {
            due("place " + k, names ? x.name(0, k) : x.entry(0, k), NONE);
        }
        x.drop(0, n("-"));
        due("one less", names ? x.name(0, 0) : x.entry(0, 0), names ? n("_") : 10);
        due("one less", names ? x.name(0, 11) : x.entry(0, 11), NONE);
        due("a FILE", names ? x.name(1, 0) : x.entry(1, 0), -10);
        due("no number", names ? x.name(64, -1) : x.entry(64, -1), -10);
        x.dir(0, n("d"));
        due("empty", names ? x.name(9, 0) : x.entry(9, 0), NONE);
        x.mode(9, 59);
        x.as(1);
        due("no READ", names ? x.name(9, 0) : x.entry(9, 0), -20);
        due("-20 ahead of NONE", names ? x.name(9, -1) : x.entry(9, -1), -20);
        x.as(0);
        x.mode(9, 4);
        x.as(1);
        due("READ alone", names ? x.name(9, 0) : x.entry(9, 0), NONE);
        ShingleHouse y = off();
        due("OFF", names ? y.name(0, 0) : y.entry(0, 0), OFF);
    }

    static void promise18() {
        ShingleHouse x = kinds();
        for (int i = 1; i <= 4; i++) {
            due("kind " + i, x.kind(i), i);
        }
        due("root", x.kind(0), 2);
        due("free", x.kind(5), 0);
        due("last", x.kind(63), 0);
        due("above", x.kind(64), -10);
        due("below", x.kind(-1), -10);
        due("OFF", off().kind(0), OFF);
    }

    /** NODE 1 is a FILE of 3 bytes, 2 a DIRECTORY with one NAME (of 1), 3 a LAID FILE, 4 a POINTER of 5 bytes. */
    static ShingleHouse kinds() {
        ShingleHouse x = small();
        x.make(0, n("f"));
        put(x, 1, 0, "abc");
        x.dir(0, n("d"));
        x.link(2, n("f"), 1);
        feed(x, "laid").lay(0, n("l"));
        point(x, 0, "p", "a/b/c");
        return x;
    }

    static void promise19() {
        ShingleHouse x = kinds();
        due("FILE", x.size(1), 3);
        due("DIRECTORY", x.size(2), 1);
        due("LAID FILE", x.size(3), 4096);
        due("POINTER", x.size(4), 5);
        due("root", x.size(0), 4);
        due("free", x.size(5), -10);
        due("above", x.size(64), -10);
        due("below", x.size(-1), -10);
        due("OFF", off().size(0), OFF);
    }

    static void promise20() {
        ShingleHouse x = kinds();
        x.sync();
        due("mode", x.mode(1, 63), 52);
        due("DIRTY", x.count(7), 1);
        due("now", x.rights(1, 1), 63);
        due("the same", x.mode(2, 61), 61);
        due("nothing is changed", x.count(7), 1);
        due("none at all", x.mode(3, 0), 52);
        due("below", x.mode(1, -1), -15);
        due("above", x.mode(1, 64), -15);
        due("a POINTER", x.mode(4, 5), -15);
        due("free", x.mode(5, 64), -10);
        due("no number", x.mode(64, 5), -10);
        x.give(1, 2);
        x.as(2);
        due("the OWNER", x.mode(1, 1), 63);
        due("another's", x.mode(2, 1), -20);
        due("another's, the same", x.mode(2, 61), -20);
        due("-15 ahead of -20", x.mode(2, 64), -15);
        x.as(0);
        x.sync();
        x.restore();
        due("COMMITTED", x.rights(1, 1), 1);
        due("OFF", off().mode(0, 1), OFF);
    }

    static void promise21() {
        ShingleHouse x = kinds();
        x.sync();
        due("give", x.give(1, 15), 0);
        due("DIRTY", x.count(7), 1);
        due("the same", x.give(1, 15), 15);
        due("now", x.rights(1, 0), 15);
        due("a POINTER", x.give(4, 2), 0);
        due("the root", x.give(0, 2), 0);
        due("below", x.give(1, -1), -15);
        due("above", x.give(1, 16), -15);
        due("free", x.give(5, 16), -10);
        due("no number", x.give(-1, 1), -10);
        x.as(15);
        due("the OWNER may not", x.give(1, 2), -20);
        due("-15 ahead of -20", x.give(1, 16), -15);
        due("OFF", off().give(0, 1), OFF);
    }

    static void promise22() {
        ShingleHouse x = kinds();
        x.give(3, 7);
        x.mode(3, 9);
        due("owner", x.rights(3, 0), 7);
        due("mode", x.rights(3, 1), 9);
        due("a POINTER's owner", x.rights(4, 0), 0);
        due("a POINTER's mode", x.rights(4, 1), NONE);
        due("another what", x.rights(3, 2), NONE);
        due("another what", x.rights(3, -1), NONE);
        due("free", x.rights(5, 2), -10);
        due("no number", x.rights(64, 0), -10);
        due("OFF", off().rights(0, 0), OFF);
    }

    static void promise23() {
        ShingleHouse x = kinds();
        due("FILE", x.links(1), 2);
        due("LAID FILE", x.links(3), 1);
        due("DIRECTORY", x.links(2), -14);
        due("POINTER", x.links(4), -14);
        due("free", x.links(5), -14);
        due("no number", x.links(-1), -14);
        due("OFF", off().links(1), OFF);
    }

    static void promise24() {
        ShingleHouse x = kinds();
        due("root", x.parent(0), 0);
        x.dir(2, n("in"));
        due("parent", x.parent(5), 2);
        due("FILE", x.parent(1), -10);
        due("LAID FILE", x.parent(3), -10);
        due("POINTER", x.parent(4), -10);
        due("free", x.parent(6), -10);
        due("no number", x.parent(64), -10);
        due("OFF", off().parent(0), OFF);
    }

    static void promise25() {
        ShingleHouse x = kinds();
        due("root", x.block(0, 0), 145);
        due("PIECE", x.block(1, 0), 146);
        due("DIRECTORY", x.block(2, 0), 147);
        due("root, none", x.block(0, 1), NONE);
        due("root, -1", x.block(0, -1), NONE);
        due("beyond", x.block(0, 12), NONE);
        due("beyond", x.block(0, 13), NONE);
        due("LAID FILE", x.block(3, 0), 192);
        due("LAID FILE", x.block(3, 63), 255);
        due("LAID FILE, beyond", x.block(3, 64), NONE);
        due("LAID FILE, -1", x.block(3, -1), NONE);
        due("POINTER", x.block(4, 0), NONE);
        due("free", x.block(5, 0), NONE);
        due("no number", x.block(64, 0), NONE);
        due("no number", x.block(-1, -1), NONE);
        put(x, 1, 64 * 20, "a");
        due("INDEX", x.block(1, -1), 148);
        due("PIECE 20", x.block(1, 20), 149);
        due("HOLE", x.block(1, 19), NONE);
        put(x, 1, 64 * (44 + 32 * 31), "a");
        due("DOUBLE", x.block(1, -2), 150);
        due("INDEX 31", x.block(1, -34), 151);
        due("PIECE 1036", x.block(1, 1036), 152);
        due("INDEX 0", x.block(1, -3), NONE);
        due("INDEX 32", x.block(1, -35), NONE);
        due("beyond", x.block(1, 1068), NONE);
        due("far", x.block(1, Integer.MAX_VALUE), NONE);
        due("far", x.block(1, Integer.MIN_VALUE), NONE);
        due("OFF", off().block(0, 0), OFF);
    }

    static void promise26() {
        ShingleHouse x = kinds();
        put(x, 1, 3, "\u00ff");
        due("first", x.byteAt(1, 0), 'a');
        due("last", x.byteAt(1, 3), 255);
        due("behind", x.byteAt(1, 4), NONE);
        due("below", x.byteAt(1, -1), NONE);
        due("LAID FILE", x.byteAt(3, 4095), 'd');
        due("LAID FILE, behind", x.byteAt(3, 4096), NONE);
        due("POINTER", x.byteAt(4, 4), 'c');
        due("POINTER, behind", x.byteAt(4, 5), NONE);
        due("DIRECTORY", x.byteAt(2, 0), -14);
        due("free", x.byteAt(5, 0), -14);
        due("no number", x.byteAt(64, -1), -14);
        x.as(1);
        due("others may READ", x.byteAt(1, 0), 'a');
        x.as(0);
        x.mode(1, 59);
        x.mode(3, 0);
        x.as(1);
        due("no READ", x.byteAt(1, 0), -20);
        due("-20 ahead of NONE", x.byteAt(3, -1), -20);
        due("of no POINTER", x.byteAt(4, 0), 'a');
        due("OFF", off().byteAt(1, 0), OFF);
    }

    static void promise27() {
        ShingleHouse x = kinds();
        due("check", x.check(), 0);
        put(x, 1, 64 * 50, 640);
        x.cut(1, 64 * 52);
        due("check", x.check(), 0);
        x.rename(0, n("f"), 2, n("g"));
        x.drop(0, n("l"));
        due("check", x.check(), 0);
        x.sync();
        for (int i = 0; i < 12; i++) {
            put(x, 1, 64 * i, "a");
            x.power(i);
            due("CUT", x.sync(), OFF);
            due("OFF", x.check(), OFF);
            x.restore();
            x.power(-1);
            due("check behind it", x.check(), 0);
            x.sync();
        }
    }

    static void promise28() {
        ShingleHouse x = small();
        due("scrub", x.scrub(), 145);
        x.make(0, n("a"));
        put(x, 1, 0, 100);
        due("scrub", x.scrub(), 148);
        feed(x, "a").lay(0, n("l"));
        due("scrub", x.scrub(), 212);
        x.drop(0, n("a"));
        due("scrub", x.scrub(), 210);
        due("L less the free BLOCKS", x.count(13) - x.count(8), 210);
        due("none of them was destroyed", x.count(11), 0);
        due("OFF", off().scrub(), OFF);
    }

    static void promise29() {
        ShingleHouse x = small();
        due("nothing", x.sync(), 0);
        due("no COMMIT", x.count(10), 0);
        x.make(0, n("a"));
        due("sync", x.sync(), 4);
        due("COMMIT", x.count(10), 1);
        due("ENTRIES: 1 + 4 + 1 + 4", x.count(0), 10);
        due("THE JOURNAL first", x.where(0), 0);
        due("the last of it", x.where(5), 5);
        due("no more of it", x.where(6), NONE);
        due("THE MAP, the lowest", x.where(80), 6);
        due("the root", x.where(81), 7);
        due("NODE 1", x.where(82), 8);
        due("SLOTS", x.where(145), 9);
        due("nothing again", x.sync(), 0);
        due("OFF", off().sync(), OFF);
        ShingleHouse y = new ShingleHouse(8, 32, 4, 256);
        y.make(0, n("a"));
        put(y, 1, 0, 64 * 12);
        put(y, 1, 64 * 12, 64 * 6);
        // NODES 0 and 1, THE MAP, SLOTS, INDEX, 18 PIECES: 23; one more makes 24, then 25.
        put(y, 1, 64 * 18, 64);
        due("24 are told by one", y.sync(), 24);
        due("ENTRIES", y.count(0), 1 + 24 + 1 + 24);
        put(y, 1, 64 * 19, 64 * 20);
        put(y, 1, 0, 64 * 2);
        due("25 are told by two", y.sync(), 25);
        due("ENTRIES", y.count(0), 50 + 2 + 25 + 1 + 25);
    }

    static void promise30() {
        ShingleHouse x = new ShingleHouse(4, 8, 2, 64);
        due("nothing", x.clean(), 0);
        due("no RECORD", x.count(3), 0);
        x.make(0, n("a"));
        x.sync();
        due("PICK", x.clean(), 2);
        due("the band with most", x.count(14), 0);
        due("RECORDS", x.count(3), 1);
        for (int t = 0; t < 8; t++) {
            due("MERGE " + t, x.clean(), 3);
            due("destroyed in SCRATCH", x.count(12), 8 * Math.min(2, 7 - t));
            due("WRITES in SCRATCH", x.count(2), 8 * (t + 1));
        }
        due("SAFE", x.clean(), 4);
        for (int t = 0; t < 8; t++) {
            due("BACK " + t, x.clean(), 5);
            due("destroyed in the band", x.count(12), 8 * Math.min(2, 7 - t));
            due("WRITES in bands", x.count(1), 8 * (t + 1));
            due("all is read all the same", x.scrub(), 146);
        }
        due("MARK", x.mark(0), 0);
        due("DONE", x.clean(), 6);
        due("MARK", x.mark(0), 10);
        due("DONE", x.count(4), 1);
        due("RECORDS", x.count(3), 3);
        due("FREE: TAIL is OLDEST", x.count(5), 60);
        due("LIVE", x.count(6), 4);
        due("nothing was read that is destroyed", x.count(11), 0);
        due("the next PICK", x.clean(), 2);
        due("three of four", x.count(14), 1);
        due("OFF", off().clean(), OFF);
        promise30Order();
    }

    static void promise30Order() {
        // LIVE are 0 .. 3 of THE JOURNAL and the root's NODE: after ever more COMMITS of it OLDEST stays ahead of TAIL.
        ShingleHouse x = new ShingleHouse(4, 8, 1, 64);
        for (int i = 0; i < 4; i++) {
            x.mode(0, i);
            due("sync", x.sync(), 1);
        }
        due("FREE", x.count(5), 48);
        due("OLDEST is 12: not yet TRIM", x.count(15), 2);
        x.mode(0, 9);
        x.sync();
        due("OLDEST is 16", x.count(15), 1);
        due("TRIM", x.clean(), 1);
        due("FREE", x.count(5), 60);
        due("RECORDS", x.count(3), 1);
        due("LIVE", x.count(6), 4);
        due("PICK", x.clean(), 2);
        due("as many in none: three of THE JOURNAL are in band 0", x.count(14), 0);
        x.power(10);
        due("MERGE", x.clean(), 3);
        due("CUT in MERGE", x.clean(), OFF);
        due("TORN and destroyed in SCRATCH: of TRACK 1 all but two, and TRACK 2", x.count(12), 14);
        x.restore();
        due("idle", x.count(14), NONE);
        promise30Cuts();
    }

    /** At whatever STEP the power fails, it answers OFF, and what it was at is as the RECORD tells that counts. */
    static void promise30Cuts() {
        int[] kinds = {1, 2, 3, 4, 5, 6};
        for (int kind : kinds) {
            ShingleHouse x = small();
            for (int i = 0; i < 5; i++) {
                x.mode(0, i);
                x.sync();
            }
            for (int i = 0; i < 30 && x.count(15) != kind; i++) {
                x.clean();
            }
            due("next", x.count(15), kind);
            int free = x.count(5);
            int records = x.count(3);
            x.power(0);
            due("CUT at STEP " + kind, x.clean(), OFF);
            due("no RECORD more", x.count(3), records);
            due("RESTORE", x.restore(), kind < 5 ? 1 : 64 + 1 + 1);
            due("idle", x.count(14), NONE);
            due("FREE", x.count(5), kind < 5 ? free - 1 : 62);
            due("MARK", x.mark(0), kind < 5 ? 0 : 20);
            due("MARK", x.mark(1), 0);
            due("check", x.check(), 0);
            due("mode", x.rights(0, 1), 4);
        }
    }

    static void promise31() {
        ShingleHouse x = small();
        due("on", x.power(5), true);
        due("none", x.power(-7), true);
        x.make(0, n("a"));
        due("not CUT", x.sync(), 4);
        x.power(2);
        x.mode(1, 1);
        due("CUT", x.sync(), OFF);
        due("two were done", x.count(0), 12);
        due("off", x.power(2), false);
        due("RESTORE's own: THE JOURNAL was WRITTEN to, nothing to do", x.restore(), 0);
        x.mode(1, 1);
        due("what comes behind", x.sync(), OFF);
        due("two were done", x.count(0), 14);
        due("no CUT any more", x.restore(), 0);
        x.mode(1, 1);
        due("sync", x.sync(), 1);
        x.power(0);
        due("calls without WRITES", x.make(0, n("b")), 2);
        due("CUT at once", x.sync(), OFF);
        for (int what = -1; what <= 16; what++) {
            boolean told = what >= 0 && what <= 4 || what >= 10 && what <= 13;
            due("count " + what + " when OFF", x.count(what) != OFF, told);
        }
        due("mark", x.mark(0), OFF);
        due("where", x.where(0), OFF);
    }

    static void promise32() {
        ShingleHouse x = small();
        x.make(0, n("a"));
        put(x, 1, 0, "first");
        due("sync", x.sync(), 5);
        put(x, 1, 0, "other");
        due("the power was on", x.restore(), 5);
        due("as COMMITTED last", x.byteAt(1, 0), 'f');
        due("nothing is DIRTY", x.count(7), 0);
        due("once more", x.restore(), 5);
        x.power(2);
        due("a CUT is left planned", x.restore(), OFF);
        due("it goes on", x.restore(), 5);
        put(x, 1, 0, "third");
        x.power(0);
        due("CUT at THE JOURNAL's first", x.sync(), OFF);
        due("THE JOURNAL tells what it told", x.restore(), 5);
        put(x, 1, 0, "third");
        x.power(2);
        due("CUT at THE JOURNAL's last", x.sync(), OFF);
        due("not COMMITTED", x.restore(), 0);
        due("byte", x.byteAt(1, 0), 'f');
        put(x, 1, 0, "third");
        x.power(3);
        due("CUT at its own SECTOR", x.sync(), OFF);
        due("COMMITTED", x.count(10), 2);
        due("once more", x.restore(), 1);
        due("byte", x.byteAt(1, 0), 't');
        due("check", x.check(), 0);
        promise32Cleaner();
    }

    static void promise32Cleaner() {
        ShingleHouse x = new ShingleHouse(4, 8, 1, 64);
        x.make(0, n("a"));
        x.sync();
        for (int i = 0; i < 9; i++) {
            x.clean();
        }
        due("next is SAFE", x.count(15), 4);
        x.restore();
        due("ahead of SAFE: idle", x.count(14), NONE);
        due("MARK", x.mark(0), 0);
        due("PICK", x.clean(), 2);
        for (int i = 0; i < 12; i++) {
            x.clean();
        }
        due("next is BACK", x.count(15), 5);
        due("behind SAFE: all TRACKS, DONE, THE JOURNAL", x.restore(), 64 + 1 + 4);
        due("DONE", x.count(4), 1);
        due("idle", x.count(14), NONE);
        due("MARK", x.mark(0), 14);
        due("destroyed", x.count(12), 0);
        x.clean();
        x.power(8 * 8 + 1 + 20);
        int steps = 0;
        while (x.clean() != OFF && steps < 40) {
            steps++;
        }
        due("CUT in BACK", x.count(12), 8 + 4);
        x.power(30);
        due("CUT in RESTORE", x.restore(), OFF);
        due("from SAFE again", x.restore(), 64 + 1 + 4);
        due("check", x.check(), 0);
        due("NODE", x.find(0, n("a")), 1);
        due("count 11", x.count(11), 0);
    }

    static void promise33() {
        ShingleHouse x = small();
        due("none", x.where(0), NONE);
        due("below", x.where(-1), -15);
        due("above", x.where(256), -15);
        due("last", x.where(255), NONE);
        x.make(0, n("a"));
        x.sync();
        x.mode(1, 5);
        x.sync();
        due("the later one", x.where(0), 10);
        due("the only one", x.where(5), 5);
        due("NODE", x.where(82), 13);
        for (int i = 0; i < 19; i++) {
            x.clean();
        }
        due("brought to its HOME", x.where(5), NONE);
        due("of another band", x.where(82), 13);
        x.restore();
        due("of another band, written again", x.where(82), 14);
        due("OFF", off().where(0), OFF);
    }

    static void promise34() {
        ShingleHouse x = new ShingleHouse(5, 8, 1, 64);
        x.make(0, n("a"));
        x.sync();
        feed(x, "a").lay(0, n("l"));
        due("STREAMED", x.mark(4), 10);
        due("first", x.mark(0), 0);
        due("below", x.mark(-1), -15);
        due("above", x.mark(5), -15);
        x.clean();
        x.restore();
        for (int i = 0; i < 19; i++) {
            x.clean();
        }
        due("its LIMIT", x.mark(0), 14);
        due("OFF", off().mark(0), OFF);
    }

    static void promise35() {
        ShingleHouse x = new ShingleHouse(4, 8, 1, 64);
        x.make(0, n("a"));
        due("DIRTY", x.count(7), 4);
        due("free BLOCKS", x.count(8), 110);
        due("free NODES", x.count(9), 62);
        x.sync();
        due("ENTRIES", x.count(0), 10);
        due("FREE", x.count(5), 54);
        due("LIVE", x.count(6), 10);
        due("DIRTY", x.count(7), 0);
        due("COMMITTED", x.count(10), 1);
        due("CLEANER", x.count(14), NONE);
        due("its next", x.count(15), 2);
        x.clean();
        due("CLEANER", x.count(14), 0);
        due("its next", x.count(15), 3);
        x.clean();
        due("in SCRATCH", x.count(2), 8);
        due("destroyed", x.count(12), 8);
        feed(x, "a").lay(0, n("l"));
        due("in bands", x.count(1), 64);
        due("RECORDS", x.count(3), 3);
        due("DONE", x.count(4), 0);
        due("read, destroyed", x.count(11), 0);
        due("L", x.count(13), 256);
        due("free BLOCKS", x.count(8), 46);
        for (int what : new int[] {-1, 16, 17, Integer.MAX_VALUE, Integer.MIN_VALUE}) {
            due("count " + what, x.count(what), NONE);
        }
        promise35Full();
    }

    /** THE CACHE is kept from being full: one STEP a WRITE when a quarter is left, more when nothing is. */
    static void promise35Full() {
        ShingleHouse x = new ShingleHouse(4, 8, 4, 64);
        x.make(0, n("a"));
        for (int i = 0; i < 12; i++) {
            put(x, 1, 64 * i, "abc");
            x.sync();
            due("some are FREE", x.count(5) >= 0, true);
        }
        due("some band was DONE", x.count(4) > 0, true);
        due("check", x.check(), 0);
        for (int i = 0; i < 12; i++) {
            due("byte", x.byteAt(1, 64 * i + 2), 'c');
        }
        due("nothing was read that is destroyed", x.count(11), 0);
    }

    static void run(int p) {
        promise = p;
        switch (p) {
            case 1: promise1(); break;
            case 2: promise2(); break;
            case 3: promise3(); break;
            case 4: promise4(); break;
            case 5: promise5(); break;
            case 6: promise6(); break;
            case 7: promise7(); break;
            case 8: promise8(); break;
            case 9: promise9(); break;
            case 10: promise10(); break;
            case 11: promise11(); break;
            case 12: promise12(); break;
            case 13: promise13(); break;
            case 14: promise14(); break;
            case 15: promise15(); break;
            case 16: promise16and17(false); break;
            case 17: promise16and17(true); break;
            case 18: promise18(); break;
            case 19: promise19(); break;
            case 20: promise20(); break;
            case 21: promise21(); break;
            case 22: promise22(); break;
            case 23: promise23(); break;
            case 24: promise24(); break;
            case 25: promise25(); break;
            case 26: promise26(); break;
            case 27: promise27(); break;
            case 28: promise28(); break;
            case 29: promise29(); break;
            case 30: promise30(); break;
            case 31: promise31(); break;
            case 32: promise32(); break;
            case 33: promise33(); break;
            case 34: promise34(); break;
            default: promise35(); break;
        }
    }

    public static void main(String[] args) {
        for (int p = 1; p <= 35; p++) {
            run(p);
        }
        System.out.println(wrong == 0 ? done + " answers are as due" : wrong + " answers are not as due");
        if (wrong != 0) {
            System.exit(1);
        }
    }
}
