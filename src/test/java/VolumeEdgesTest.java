/** Part II of the document, THE VOLUME, sentence by sentence. */
public final class VolumeEdgesTest extends Edges {
    @Sentence(of = "II", is = "It has L = 8 T B SECTORS 0 .. L - 1;")
    static void sectors() {
        int[][] sizes = {{4, 8, 256}, {5, 9, 360}, {8, 8, 512}, {8, 32, 2048}};
        for (int[] s : sizes) {
            House h = new House(s[0], s[1], 1, 64);
            due("L", h.count(13), s[2]);
            due("SECTOR 0", h.where(0), NONE);
            due("SECTOR L - 1", h.where(s[2] - 1), NONE);
            due("SECTOR L", h.where(s[2]), -15);
            due("SECTOR -1", h.where(-1), -15);
        }
    }

    @Sentence(of = "II", is = "SECTOR x has its HOME in band x / (8 T), there in TRACK x / 8 mod T.")
    static void home() {
        // NODE 46 is SECTOR 127, the last one of band 1; NODE 47 is SECTOR 128, the first one of band 2.
        for (int node = 46; node <= 47; node++) {
            House h = House.small().files(47);
            h.sync();
            h.cleanAll();
            h.mode(node, 7);
            h.sync();
            due("ENTRY", h.where(81 + node) >= 0, true);
            due("PICK of THE JOURNAL's band", h.clean(), 2);
            due("it is band 0", h.count(14), 0);
            h.cleanTimes(18);
            due("PICK of the NODE's band", h.clean(), 2);
            due("the band of NODE " + node, h.count(14), node - 45);
        }
        // BLOCK 145 is in TRACK 2 of its band: with S 1 it is destroyed while TRACK 1 is written, and TRACK 2 mends it.
        House h = House.one();
        h.cleanTimes(19 + 19);
        due("the band with the BLOCK of SLOTS", h.clean(), 2);
        due("band", h.count(14), 2);
        h.power(8 * 8 + 1 + 8 + 1);
        h.cleanTimes(10);
        due("CUT in TRACK 1 of BACK", h.clean(), OFF);
        due("lost: seven of TRACK 1, all of TRACK 2", h.count(12), 15);
    }

    @Sentence(of = "II", is = "ENTRIES of THE CACHE are numbered 0, 1, 2, .. as they are written; ENTRY q is at place "
        + "q mod C, and tells which SECTOR x it holds.")
    static void entriesGoRound() {
        House h = House.small();
        for (int k = 0; k < 40; k++) {
            h.commitRoot(1);
            due("THE JOURNAL's first", h.where(0), 4 * k);
            due("THE JOURNAL's last", h.where(2), 4 * k + 2);
            due("the root's NODE", h.where(81), 4 * k + 3);
            due("what it holds", h.rights(0, 1), k % 2 == 0 ? 62 : 63);
        }
        h.restore();
        due("the root's NODE, once more", h.where(81), 160);
        due("what it holds", h.rights(0, 1), 63);
    }

    @Sentence(of = "II", is = "HEAD is the number of the next one, TAIL (as recorded) that of the first one that counts; "
        + "FREE is C - (HEAD - TAIL).")
    static void free() {
        House h = House.small();
        due("at first", h.count(5), 64);
        for (int k = 1; k <= 12; k++) {
            h.commitRoot(1);
            due("behind " + k + " COMMITS, TAIL as recorded", h.count(5), 64 - 4 * k);
            due("though as few are LIVE", h.count(6), 4);
        }
        due("TRIM", h.clean(), 1);
        due("TAIL is recorded", h.count(5), 60);
    }

    @Sentence(of = "II", is = "Each band has a MARK, 0 at the beginning.")
    static void marks() {
        House h = new House(8, 8, 1, 64);
        for (int band = 0; band < 8; band++) {
            due("MARK " + band, h.mark(band), 0);
        }
    }

    @Sentence(of = "II", is = "An ENTRY from TAIL on is LIVE if its number is not below its band's MARK, and none behind "
        + "it holds the same SECTOR.")
    static void live() {
        House h = House.one();
        due("all ten", h.count(6), 10);
        due("PICK", h.clean(), 2);
        h.commitRoot(1);
        due("three of THE JOURNAL and one NODE have one behind", h.count(6), 10);
        due("the one behind", h.where(81), 13);
        h.cleanTimes(18);
        due("MARK", h.mark(0), 10);
        due("a number that is the MARK", h.where(0), 10);
        due("a number below it", h.where(5), NONE);
        due("the last one below it", h.where(3), NONE);
        due("a number below another band's MARK", h.where(80), 6);
        due("LIVE", h.count(6), 7);
        House t = House.one().commitRoot(1);
        t.cleanTimes(19);
        due("MARK", t.mark(0), 14);
        due("TAIL is 6 of 14", t.count(5), 64 - 8);
        due("a number from TAIL on, below its band's MARK", t.where(0), NONE);
        due("LIVE", t.count(6), 4);
    }

    @Sentence(of = "II", is = "What SECTOR x holds is what its LIVE ENTRY holds, or else what was brought to its HOME.")
    static void holds() {
        House h = House.one();
        h.put(1, 0, "old");
        h.sync();
        due("by its ENTRY", h.byteAt(1, 0), 'o');
        h.cleanAll();
        due("no ENTRY", h.where(146), NONE);
        due("from its HOME", h.byteAt(1, 0), 'o');
        h.put(1, 0, "new");
        h.sync();
        due("an ENTRY again", h.where(146) >= 0, true);
        due("by its ENTRY, not from its HOME", h.byteAt(1, 0), 'n');
        h.cleanAll();
        due("from its HOME", h.byteAt(1, 0), 'n');
        due("all of it", h.byteAt(1, 2), 'w');
        // An ENTRY from TAIL on that is no more LIVE, for its band was STREAMED since.
        House l = new House(4, 8, 1, 256);
        l.lay(0, "l", "a");
        l.sync();
        l.put(1, 0, "old");
        l.sync();
        l.drop(0, "l");
        l.sync();
        due("LIVE", l.where(192) >= 0, true);
        l.lay(0, "l", "b");
        due("not LIVE", l.where(192), NONE);
        due("from its HOME", l.byteAt(1, 0), 'b');
    }

    @Sentence(of = "II", is = "A RECORD tells TAIL, all MARKS, what the CLEANER is at, and the band that is STREAMED.")
    static void recordTells() {
        House h = House.small().commitRoot(5);
        due("TRIM", h.clean(), 1);
        due("THE JOURNAL's one", h.restore(), 1);
        due("TAIL: 16 of 21", h.count(5), 64 - 5);
        h = House.one();
        h.cleanTimes(19);
        h.restore();
        due("a MARK", h.mark(0), 10);
        due("another MARK", h.mark(1), 0);
        h = House.one();
        h.cleanTimes(10);
        due("next is BACK", h.count(15), 5);
        due("the CLEANER: all TRACKS, DONE, THE JOURNAL's four", h.restore(), 64 + 1 + 4);
        h = House.small();
        h.power(1);
        h.lay(0, "l", "a");
        due("the STREAMED band: all TRACKS and a RECORD", h.restore(), 64 + 1);
    }

    @Sentence(of = "II", is = "TO WRITE SECTOR x: if 4 FREE is below C, one STEP of the CLEANER;")
    static void quarter() {
        // With C 64, 4 FREE is 64 (not below) at the 49th ENTRY and 60 at the 50th; with C 68 it is 68 and 64 at the 52nd.
        int[][] rows = {{64, 49}, {65, 49}, {66, 50}, {67, 51}, {68, 52}, {100, 76}, {256, 193}};
        for (int[] row : rows) {
            int before = row[1] / 4 * 4 - 4;
            for (int more = 0; more <= 1; more++) {
                House h = new House(4, 8, 1, row[0]).commitRoot(before / 4);
                due("no STEP yet", h.count(3), 0);
                h.power(row[1] - before + more);
                for (int i = 1; i <= 3; i++) {
                    h.mode(0, i);
                    h.sync();
                }
                due("the power has failed", h.power(-1), false);
                due("ENTRIES ahead of the STEP, C " + row[0], h.count(0), row[1]);
                due("RECORDS", h.count(3), more);
            }
        }
        House h = House.one();
        h.commitRoot(10);
        due("one STEP at the 50th: PICK", h.count(3), 1);
        due("none of MERGE", h.count(2), 0);
        h.commitRoot(1);
        due("one STEP a WRITE: four of MERGE", h.count(2), 32);
    }

    @Sentence(of = "II", is = "then, as long as FREE is 0, more STEPS; then ENTRY HEAD, that holds x (a WRITE).")
    static void noneFree() {
        House h = new House(4, 32, 1, 64);
        h.make(0, "a");
        h.sync();
        h.commitRoot(13);
        due("FREE", h.count(5), 2);
        due("PICK, then one of MERGE a WRITE", h.count(2), 8 * 12);
        h.commitRoot(1);
        due("all of MERGE", h.count(2), 8 * 32);
        due("all of BACK", h.count(1), 8 * 32);
        due("PICK, SAFE, DONE", h.count(3), 3);
        due("DONE", h.count(4), 1);
        due("the LIMIT: HEAD at PICK", h.mark(0), 49);
        due("TAIL is 60, HEAD 66", h.count(5), 58);
        due("ENTRIES", h.count(0), 66);
        due("the 65th holds THE JOURNAL's last", h.where(2), 64);

        // Planned at so many: ENTRIES done, WRITES in SCRATCH, in bands, RECORDS. With FREE 1 one STEP alone, then the ENTRY.
        int[][] rows = {{17, 63, 8 * 14, 0, 1}, {18, 64, 8 * 14, 0, 1}, {18 + 10, 64, 8 * 14 + 10, 0, 1},
            {18 + 144, 64, 8 * 32, 0, 1}, {18 + 145, 64, 8 * 32, 0, 2}, {18 + 145 + 100, 64, 8 * 32, 100, 2},
            {18 + 145 + 256, 64, 8 * 32, 256, 2}, {18 + 145 + 257, 64, 8 * 32, 256, 3}};
        for (int[] row : rows) {
            House c = new House(4, 32, 1, 64);
            c.make(0, "a");
            c.sync();
            c.commitRoot(13);
            c.mode(0, 5);
            c.power(row[0]);
            due("CUT", c.sync(), OFF);
            for (int what = 0; what < 4; what++) {
                int[] place = {1, 3, 2, 4};
                due("count " + what + ", planned at " + row[0], c.count(what), row[place[what]]);
            }
        }
    }

    @Sentence(of = "II", is = "THE CLEANER is idle, or at a band, with a LIMIT. A STEP is what comes first of these; "
        + "its KIND:")
    static void whatComesFirst() {
        House h = House.small().commitRoot(5);
        due("TRIM ahead of PICK", h.count(15), 1);
        House g = House.small().commitRoot(4);
        due("PICK", g.clean(), 2);
        g.commitRoot(2);
        due("at a band no TRIM", g.clean(), 3);
        due("FREE", g.count(5), 64 - 24);
        int[] kinds = {2, 3, 3, 3, 3, 3, 3, 3, 3, 4, 5, 5, 5, 5, 5, 5, 5, 5, 6};
        House k = House.one();
        for (int kind : kinds) {
            due("next", k.count(15), kind);
            due("STEP", k.clean(), kind);
        }
        due("idle", k.count(14), NONE);
    }

    @Sentence(of = "II", is = "idle: 1 TRIM, if OLDEST - TAIL is C / 4 (cut off) or more,")
    static void trim() {
        // OLDEST is 16 behind five COMMITS of the root, 12 behind four.
        int[][] rows = {{64, 5, 1}, {67, 5, 1}, {68, 5, 2}, {71, 5, 2}, {64, 4, 2}, {80, 6, 1}, {83, 6, 1}, {84, 6, 2}};
        for (int[] row : rows) {
            House h = new House(4, 8, 1, row[0]).commitRoot(row[1]);
            due("C " + row[0] + ", COMMITS " + row[1], h.clean(), row[2]);
        }
    }

    @Sentence(of = "II", is = "OLDEST being the lowest number of a LIVE ENTRY, HEAD without one: TAIL becomes OLDEST, by "
        + "a RECORD (a WRITE).")
    static void oldest() {
        House h = House.small().commitRoot(5);
        h.clean();
        due("TAIL is 16 of 20", h.count(5), 60);
        due("a RECORD", h.count(3), 1);
        due("no other WRITE", h.writes(), 21);
        House c = House.small().commitRoot(5);
        c.power(0);
        due("CUT at the RECORD", c.clean(), OFF);
        due("none done", c.count(3), 0);
        c.restore();
        due("TAIL is 0 of 21", c.count(5), 43);
        House a = House.small().commitRoot(5).cleanAll();
        due("without a LIVE one: HEAD", a.count(5), 64);
        due("LIVE", a.count(6), 0);
    }

    /** A FILE with two BLOCKS, all at HOME; then its MODE and its first BLOCKS are COMMITTED. */
    private static House counted(int blocks) {
        House h = House.one();
        h.put(1, 0, 128);
        h.sync();
        h.cleanAll();
        h.mode(1, 7);
        h.put(1, 0, 64 * blocks);
        h.sync();
        return h;
    }

    @Sentence(of = "II", is = "idle: 2 PICK: the band with most LIVE ENTRIES (the lowest one of those with as many); the "
        + "LIMIT is HEAD. A RECORD (a WRITE).")
    static void pick() {
        for (int blocks = 1; blocks <= 2; blocks++) {
            House h = counted(blocks);
            int writes = h.writes();
            due("PICK", h.clean(), 2);
            due("THE JOURNAL's band has most", h.count(14), 0);
            due("a RECORD", h.writes(), writes + 1);
            h.cleanTimes(18);
            due("PICK", h.clean(), 2);
            due("one NODE in band 1, BLOCKS in band 2: " + blocks, h.count(14), blocks);
        }
        House l = House.one();
        l.clean();
        l.commitRoot(1);
        l.cleanTimes(18);
        due("the LIMIT: HEAD at PICK, not at DONE", l.mark(0), 10);
        House c = House.one();
        c.power(0);
        due("CUT at its RECORD", c.clean(), OFF);
        c.restore();
        due("idle", c.count(14), NONE);
    }

    @Sentence(of = "II", is = "If there is no LIVE ENTRY at all: 0, and nothing happens.")
    static void nothingLive() {
        House h = House.small();
        h.power(0);
        due("at first", h.clean(), 0);
        due("the power is on", h.power(-1), true);
        due("no WRITE", h.writes(), 0);
        due("idle", h.count(14), NONE);
        House a = House.one().cleanAll();
        int writes = a.writes();
        due("behind all DONE", a.clean(), 0);
        due("no WRITE", a.writes(), writes);
        due("next", a.count(15), 0);
    }

    @Sentence(of = "II", is = "3 MERGE, T times: what the band's TRACK (0 first) holds comes to SCRATCH: 8 WRITES.")
    static void merge() {
        for (int t : new int[] {8, 9, 32}) {
            House h = new House(4, t, 4, 64).commitRoot(1);
            h.clean();
            for (int i = 0; i < t; i++) {
                due("MERGE " + i, h.clean(), 3);
                due("WRITES in SCRATCH", h.count(2), 8 * (i + 1));
                due("destroyed: the TRACKS behind", h.count(12), 8 * Math.min(4, t - 1 - i));
            }
            due("no more", h.count(15), 4);
            due("none in bands", h.count(1), 0);
        }
    }

    @Sentence(of = "II", is = "4 SAFE: a RECORD (a WRITE): SCRATCH is whole.")
    static void safe() {
        House h = House.one();
        h.cleanTimes(9);
        int writes = h.writes();
        due("SAFE", h.clean(), 4);
        due("a RECORD", h.count(3), 2);
        due("no other WRITE", h.writes(), writes + 1);
        due("whole", h.count(12), 0);
    }

    @Sentence(of = "II", is = "5 BACK, T times: a TRACK (0 first) is written from SCRATCH: 8 WRITES.")
    static void back() {
        for (int t : new int[] {8, 9, 32}) {
            House h = new House(4, t, 4, 64).commitRoot(1);
            h.cleanTimes(1 + t + 1);
            for (int i = 0; i < t; i++) {
                due("BACK " + i, h.clean(), 5);
                due("WRITES in bands", h.count(1), 8 * (i + 1));
                due("destroyed: the TRACKS behind", h.count(12), 8 * Math.min(4, t - 1 - i));
            }
            due("no more", h.count(15), 6);
            due("SCRATCH is not written", h.count(2), 8 * t);
        }
    }

    @Sentence(of = "II", is = "(From SAFE to DONE what the band has at HOME is read from SCRATCH.)")
    static void fromScratch() {
        House h = new House(4, 8, 4, 64);
        h.make(0, "a");
        h.put(1, 0, 256);
        h.sync();
        h.cleanAll();
        h.put(1, 64, 192);
        h.sync();
        h.cleanTimes(19);
        due("PICK", h.clean(), 2);
        due("the band of the FILE's BLOCKS", h.count(14), 2);
        for (int i = 0; i < 18; i++) {
            due("PIECE 0, whose BLOCK is at HOME alone", h.byteAt(1, 63), 'x');
            due("PIECE 1", h.byteAt(1, 64), 'x');
            due("all SECTORS", h.scrub(), 150);
            due("none of them destroyed", h.count(11), 0);
            due("STEP", h.clean(), i < 8 ? 3 : i == 8 ? 4 : i < 17 ? 5 : 6);
        }
        due("from its HOME again", h.byteAt(1, 63), 'x');
        due("none of them destroyed", h.count(11), 0);
    }

    @Sentence(of = "II", is = "6 DONE: the band's MARK becomes the LIMIT; TAIL becomes OLDEST (by that MARK); the CLEANER "
        + "is idle. A RECORD (a WRITE).")
    static void done() {
        House h = House.one();
        h.cleanTimes(18);
        due("MARK ahead of it", h.mark(0), 0);
        due("FREE ahead of it", h.count(5), 54);
        int writes = h.writes();
        due("DONE", h.clean(), 6);
        due("MARK", h.mark(0), 10);
        due("OLDEST is THE MAP's, 6 of 10", h.count(5), 60);
        due("idle", h.count(14), NONE);
        due("a RECORD", h.count(3), 3);
        due("no other WRITE", h.writes(), writes + 1);
        due("how often", h.count(4), 1);
    }

    @Sentence(of = "II", is = "A RECORD counts as soon as its WRITE is done (TORN: the one before it counts on).")
    static void recordCounts() {
        // PICK, eight of MERGE; SAFE is WRITE 65 from PICK's on, BACK has 64, DONE is WRITE 130.
        int[][] rows = {{65, 4}, {66, 64 + 1 + 4}, {130, 64 + 1 + 4}, {131, 4}};
        for (int[] row : rows) {
            House h = House.one();
            h.power(row[0]);
            h.cleanTimes(20);
            due("the power has failed", h.power(-1), false);
            due("RESTORE, with the power failing behind " + row[0], h.restore(), row[1]);
        }
    }

    @Sentence(of = "II", is = "TO STREAM a band: its MARK becomes HEAD, it is the one that is STREAMED, by a RECORD "
        + "(a WRITE); 8 T WRITES, TRACK by TRACK; none is STREAMED, TAIL becomes OLDEST, by a RECORD (a WRITE).")
    static void stream() {
        House h = House.small().commitRoot(5);
        due("FREE", h.count(5), 44);
        due("lay", h.lay(0, "l", "a"), 1);
        due("MARK", h.mark(3), 20);
        due("another MARK", h.mark(2), 0);
        due("TAIL is 16 of 20", h.count(5), 60);
        due("RECORDS", h.count(3), 2);
        due("in the band", h.count(1), 64);
        due("none is STREAMED: THE JOURNAL's one alone", h.restore(), 1);
        int[][] rows = {{0, 0, 43}, {1, 20, 59}, {65, 20, 59}};
        for (int[] row : rows) {
            House c = House.small().commitRoot(5);
            c.power(row[0]);
            due("CUT", c.lay(0, "l", "a"), OFF);
            due("RESTORE", c.restore(), row[0] == 0 ? 1 : 64 + 1 + 1);
            due("MARK with a CUT behind " + row[0], c.mark(3), row[1]);
            due("FREE", c.count(5), row[2]);
        }
    }

    public static void main(String[] args) throws IllegalAccessException {
        run(VolumeEdgesTest.class);
    }
}
