/** Part I of the document, THE DISK, sentence by sentence. */
public final class DiskEdgesTest extends Edges {
    @Sentence(of = "Terms", is = "Power may fail between any two writes and in each of them.")
    static void atEveryWrite() {
        for (int n = 0; n < 10; n++) {
            House h = House.small();
            h.make(0, "a");
            h.power(n);
            due("in WRITE " + n, h.sync(), OFF);
            h.restore();
            due("tree", h.find(0, "a"), n < 6 ? -12 : 1);
            due("check", h.check(), 0);
        }
        for (int n = 0; n < 40; n++) {
            House h = House.small();
            h.make(0, "a");
            h.sync();
            h.cleanTimes(n);
            h.make(0, "b");
            h.restore();
            due("between two, behind " + n + " STEPS", h.size(0), 1);
            due("check", h.check(), 0);
        }
    }

    @Sentence(of = "I", is = "A SECTOR has 64 bytes (and what the writer needs to know them by; that is never seen).")
    static void sixtyFourBytes() {
        House h = House.small();
        h.make(0, "a");
        h.put(1, 0, 64);
        due("64 bytes: one BLOCK", h.block(1, 1), NONE);
        h.put(1, 64, 1);
        due("the 65th: another one", h.block(1, 1), 147);
    }

    @Sentence(of = "I", is = "BANDS 0 .. B - 1, each of T TRACKS of 8 SECTORS.")
    static void bands() {
        for (int b = 4; b <= 8; b++) {
            for (int t : new int[] {8, 9, 31, 32}) {
                House h = new House(b, t, 1, 64);
                due("SECTORS", h.count(13), 8 * t * b);
                due("the first band", h.mark(0), 0);
                due("the last band", h.mark(b - 1), 0);
                due("band B", h.mark(b), -15);
                due("band -1", h.mark(-1), -15);
                h.lay(0, "l", "a");
                due("WRITES in the last band", h.count(1), 8 * t);
                due("its first SECTOR", h.block(1, 0), 8 * t * (b - 1));
            }
        }
    }

    /** What is lost when so many WRITES were done from a band's beginning on, and the next one is TORN. */
    static int lost(int done, int tracks, int shingles) {
        int track = done / 8;
        int own = track == 0 ? 1 : 8 - done % 8;
        return own + 8 * Math.min(shingles, tracks - 1 - track);
    }

    @Sentence(of = "I", is = "A write into TRACK t of a band destroys all that is on the next S TRACKS (t + 1 .. t + S) "
        + "of this band.")
    static void destroysTheNext() {
        for (int s = 1; s <= 4; s++) {
            for (int done = 0; done < 64; done++) {
                House h = new House(4, 8, s, 64);
                h.power(1 + done);
                due("lay", h.lay(0, "l", "a"), OFF);
                due("destroyed with S " + s + " behind " + done, h.count(12), lost(done, 8, s));
            }
        }
    }

    @Sentence(of = "I", is = "A write into TRACK t of a band destroys all that is on the next S TRACKS (t + 1 .. t + S) "
        + "of this band.")
    static void destroysTheNextInBack() {
        for (int s = 1; s <= 4; s++) {
            for (int done = 0; done < 64; done += 7) {
                House h = new House(4, 8, s, 64);
                h.commitRoot(1);
                h.cleanTimes(10);
                h.power(done);
                h.cleanTimes(9);
                due("destroyed with S " + s + " behind " + done + " of band 0", h.count(12), lost(done, 8, s));
            }
        }
    }

    @Sentence(of = "I", is = "A SCRATCH band, likewise.")
    static void scratchLikewise() {
        for (int s = 1; s <= 4; s++) {
            for (int done = 0; done < 64; done++) {
                House h = new House(4, 8, s, 64);
                h.commitRoot(1);
                h.power(1 + done);
                for (int i = 0; i < 1 + done / 8; i++) {
                    due("STEP", h.clean(), i == 0 ? 2 : 3);
                }
                due("CUT in MERGE", h.clean(), OFF);
                due("destroyed with S " + s + " behind " + done, h.count(12), lost(done, 8, s));
            }
        }
    }

    @Sentence(of = "I", is = "THE CACHE: C SECTORS, and two places for RECORDS; nothing there is destroyed by others.")
    static void cacheStays() {
        House h = new House(4, 8, 4, 64);
        h.make(0, "a");
        for (int i = 0; i < 10; i++) {
            h.put(1, 64 * i, "piece" + i);
            h.sync();
        }
        for (int i = 0; i < 10; i++) {
            due("byte of PIECE " + i, h.byteAt(1, 64 * i + 5), '0' + i);
        }
        h.mode(1, 7);
        h.power(0);
        due("CUT at an ENTRY or RECORD", h.sync(), OFF);
        h.restore();
        for (int i = 0; i < 10; i++) {
            due("byte of PIECE " + i + " behind it", h.byteAt(1, 64 * i + 5), '0' + i);
        }
        due("read, destroyed", h.count(11), 0);
        House c = new House(4, 8, 4, 100);
        due("all C are FREE at first", c.count(5), 100);
    }

    @Sentence(of = "I", is = "At the beginning all SECTORS hold zeros.")
    static void zerosAtFirst() {
        House h = House.small();
        for (int x = 0; x < 256; x++) {
            due("ENTRY of " + x, h.where(x), NONE);
        }
        due("destroyed", h.count(12), 0);
        h.make(0, "a");
        h.put(1, 63, "z");
        for (int i = 0; i < 63; i++) {
            due("byte " + i, h.byteAt(1, i), 0);
        }
    }

    @Sentence(of = "I", is = "WRITES are counted, one for each SECTOR (or RECORD).")
    static void countsEach() {
        House h = House.small();
        due("at first", h.writes(), 0);
        h.commitRoot(1);
        due("a COMMIT of one: four ENTRIES", h.count(0), 4);
        due("and no more", h.writes(), 4);
        h.clean();
        due("PICK: a RECORD", h.count(3), 1);
        h.clean();
        due("MERGE: eight", h.count(2), 8);
        due("and no more", h.writes(), 13);
        h.lay(0, "l", "a");
        due("STREAM: 64 in a band", h.count(1), 64);
        due("and two RECORDS", h.count(3), 3);
        due("and no more", h.writes(), 13 + 66);
    }

    @Sentence(of = "I", is = "THE CUT: if it is planned at n, n more WRITES are done; the next one is TORN")
    static void cutAtN() {
        for (int n = 0; n <= 10; n++) {
            House h = House.small();
            h.make(0, "a");
            h.power(n);
            due("ten WRITES, planned at " + n, h.sync(), n < 10 ? OFF : 4);
            due("done", h.count(0), n);
        }
        House h = House.small();
        h.make(0, "a");
        h.power(10);
        h.sync();
        due("still on", h.power(0), true);
        h.make(0, "b");
        due("the first of the next one", h.sync(), OFF);
        due("done", h.count(0), 10);
    }

    @Sentence(of = "I", is = "(what was at its place, and what such a WRITE destroys, is lost, and it is not there "
        + "itself; it counts as none)")
    static void torn() {
        House h = House.small();
        h.power(1);
        h.lay(0, "l", "a");
        due("at its place, and the next TRACK", h.count(12), 9);
        due("counts as none in bands", h.count(1), 0);
        House r = House.small();
        r.power(0);
        r.lay(0, "l", "a");
        due("a RECORD counts as none", r.count(3), 0);
        due("and destroys none", r.count(12), 0);
        House e = House.small();
        e.commitRoot(1);
        e.mode(0, 5);
        e.power(0);
        e.sync();
        due("an ENTRY counts as none", e.count(0), 4);
        e.restore();
        due("it is not there itself", e.where(0), 0);
        due("what was COMMITTED is there", e.rights(0, 1), 62);
        House s = House.small();
        s.commitRoot(1);
        s.clean();
        s.power(0);
        s.clean();
        due("in SCRATCH counts as none", s.count(2), 0);
        due("in SCRATCH: itself, and the next TRACK", s.count(12), 9);
    }

    @Sentence(of = "I", is = "no CUT is planned any more, the power is OFF, and nothing goes on:")
    static void planIsGone() {
        House h = House.off();
        due("off", h.power(-1), false);
        House g = House.off();
        g.restore();
        g.make(0, "a");
        due("no other CUT", g.sync(), 4);
        due("goes on", g.clean(), 2);
        House l = House.small();
        l.power(5);
        l.lay(0, "l", "a");
        due("nothing goes on: WRITES in bands", l.count(1), 4);
        due("RECORDS", l.count(3), 1);
    }

    @Sentence(of = "I", is = "the call that was at it answers OFF, and so do all others but feed(), end(), power(), "
        + "restore(), and count() of 0 to 4 and 10 to 13.")
    static void offAnswers() {
        House h = House.off();
        long name = House.n("a");
        due("as", h.as(1), OFF);
        due("as, wrong", h.as(16), OFF);
        due("make", h.make(0, name), OFF);
        due("make, wrong", h.make(64, 0), OFF);
        due("dir", h.dir(0, name), OFF);
        due("lay", h.lay(0, name), OFF);
        due("point", h.point(0, name), OFF);
        due("link", h.link(0, name, 1), OFF);
        due("put", h.put(1, 0), OFF);
        due("cut", h.cut(1, 0), OFF);
        due("drop", h.drop(0, name), OFF);
        due("rename", h.rename(0, name, 0, name), OFF);
        due("find", h.find(0, name), OFF);
        due("walk", h.walk(0), OFF);
        due("entry", h.entry(0, 0), OFF);
        due("name", h.name(0, 0), OFF);
        due("kind", h.kind(0), OFF);
        due("kind, wrong", h.kind(64), OFF);
        due("size", h.size(0), OFF);
        due("mode", h.mode(0, 1), OFF);
        due("give", h.give(0, 1), OFF);
        due("rights", h.rights(0, 0), OFF);
        due("links", h.links(1), OFF);
        due("parent", h.parent(0), OFF);
        due("block", h.block(0, 0), OFF);
        due("byteAt", h.byteAt(1, 0), OFF);
        due("check", h.check(), OFF);
        due("scrub", h.scrub(), OFF);
        due("sync", h.sync(), OFF);
        due("clean", h.clean(), OFF);
        due("where", h.where(0), OFF);
        due("where, wrong", h.where(-1), OFF);
        due("mark", h.mark(0), OFF);
        due("mark, wrong", h.mark(4), OFF);
        int[] counts = {0, 0, 0, 0, 0, OFF, OFF, OFF, OFF, OFF, 0, 0, 0, 256, OFF, OFF};
        for (int what = 0; what < counts.length; what++) {
            due("count " + what, h.count(what), counts[what]);
        }
        due("count -1", h.count(-1), OFF);
        due("count 16", h.count(16), OFF);
        due("feed", h.feed(1, 2, 3, 4, 5), true);
        due("end", h.end(20), true);
        due("power", h.power(-1), false);
        due("restore", h.restore(), 0);
    }

    @Sentence(of = "I", is = "What isn't on the disk is forgotten.")
    static void forgotten() {
        House h = House.small();
        h.make(0, "a");
        h.sync();
        h.put(1, 0, "new");
        h.dir(0, "d");
        h.mode(0, 5);
        h.clean();
        h.clean();
        h.power(0);
        due("CUT", h.clean(), OFF);
        h.restore();
        due("size", h.size(1), 0);
        due("NODE", h.kind(2), 0);
        due("MODE", h.rights(0, 1), 63);
        due("DIRTY", h.count(7), 0);
        due("the CLEANER", h.count(14), NONE);
        due("what is on the disk", h.find(0, "a"), 1);
    }

    public static void main(String[] args) throws IllegalAccessException {
        run(DiskEdgesTest.class);
    }
}
