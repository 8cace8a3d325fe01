/** Part V of the document, TOLD CLOSER, sentence by sentence. */
public final class CloserEdgesTest extends Edges {
    // ---- DISK

    @Sentence(of = "V", is = "DISK: each WRITE into TRACK t destroys all SECTORS of those of t + 1 .. t + S that the band "
        + "has; the others of its own TRACK stay.")
    static void destroyed() {
        for (int s = 1; s <= 4; s++) {
            // Two LAID FILES, the second one in the band below the first one's: what it has behind it is not its own.
            House h = new House(5, 8, s, 64);
            h.lay(0, "l", "abc");
            for (int done = 1; done < 8; done++) {
                House g = new House(5, 8, s, 64);
                g.power(1 + done);
                g.lay(0, "l", "abc");
                due("of its own TRACK the TORN one alone", g.count(12), 1 + 8 * s);
            }
            for (int track = 4; track < 8; track++) {
                House g = new House(5, 8, s, 64);
                g.lay(0, "l", "abc");
                g.sync();
                g.power(1 + 8 * track + 3);
                due("CUT", g.lay(0, "m", "d"), OFF);
                due("those that the band has", g.count(12), 5 + 8 * Math.min(s, 7 - track));
                g.restore();
                due("the band behind it", g.byteAt(1, 0), 'a');
                g.scrub();
                due("read, destroyed", g.count(11), 0);
            }
            due("none of a whole band", h.count(12), 0);
        }
    }

    @Sentence(of = "V", is = "A TORN ENTRY or RECORD: its own place alone (nothing that counts lies there).")
    static void tornPlace() {
        for (int commits = 10; commits <= 26; commits++) {
            for (int n = 0; n < 4; n++) {
                House h = House.small();
                h.make(0, "a");
                h.sync();
                h.commitRoot(commits);
                int mode = h.rights(0, 1);
                h.mode(0, 5);
                h.power(n);
                h.sync();
                h.power(-1);
                h.restore();
                due("MODE", h.rights(0, 1) == mode || h.rights(0, 1) == 5, true);
                due("NAME", h.find(0, "a"), 1);
                due("check", h.check(), 0);
                due("read, destroyed", h.count(11), 0);
            }
        }
        House e = House.one();
        e.mode(0, 5);
        e.power(0);
        due("an ENTRY", e.sync(), OFF);
        due("destroyed in bands and SCRATCH", e.count(12), 0);
        House r = House.one();
        r.power(0);
        due("a RECORD", r.clean(), OFF);
        due("destroyed in bands and SCRATCH", r.count(12), 0);
    }

    @Sentence(of = "V", is = "Nothing that is read is ever destroyed or TORN: count(11) is 0.")
    static void neverRead() {
        boolean failed = true;
        for (int n = 0; n < 600 && failed; n++) {
            House h = new House(4, 8, 4, 64);
            h.power(n);
            h.make(0, "a");
            h.put(1, 0, 200);
            h.sync();
            h.lay(0, "l", "abc");
            h.cleanTimes(12);
            h.put(2, 0, "abc");
            h.sync();
            h.scrub();
            h.cleanTimes(30);
            h.drop(0, "l");
            h.sync();
            failed = !h.power(-1);
            due("CUT at " + n, h.count(11), 0);
            h.restore();
            h.scrub();
            h.check();
            h.cleanAll();
            h.scrub();
            due("behind RESTORE", h.count(11), 0);
        }
        due("the last time no WRITE was left to fail", failed, false);
    }

    @Sentence(of = "V", is = "LIVE ENTRIES of a band are those of SECTORS whose HOME is there.")
    static void liveOfBand() {
        // ENTRIES of four SECTORS of THE JOURNAL and two NODES; then of NODES of bands 1 and 2 alone.
        House h = House.small().files(48);
        h.sync();
        h.cleanAll();
        h.mode(46, 1);
        h.mode(47, 1);
        h.mode(48, 1);
        h.sync();
        due("LIVE", h.count(6), 8);
        due("PICK", h.clean(), 2);
        due("five of THE JOURNAL", h.count(14), 0);
        h.cleanTimes(18);
        due("LIVE", h.count(6), 3);
        due("PICK", h.clean(), 2);
        due("two NODES of band 2", h.count(14), 2);
        h.cleanTimes(18);
        due("LIVE", h.count(6), 1);
        due("PICK", h.clean(), 2);
        due("one NODE of band 1", h.count(14), 1);
    }

    @Sentence(of = "V", is = "How far MERGE and BACK are is in memory alone.")
    static void howFar() {
        House h = House.one();
        h.cleanTimes(1 + 7);
        due("seven of MERGE", h.count(2), 56);
        h.restore();
        due("PICK", h.clean(), 2);
        for (int i = 0; i < 8; i++) {
            due("MERGE from the beginning", h.clean(), 3);
        }
        due("SAFE", h.clean(), 4);
        due("in SCRATCH", h.count(2), 56 + 64);
        h.cleanTimes(7);
        due("seven of BACK", h.count(1), 56);
        due("all of BACK, DONE, THE JOURNAL's four", h.restore(), 64 + 1 + 4);
    }

    // ---- POWER

    @Sentence(of = "V", is = "POWER: power() when OFF plans the CUT for RESTORE's own WRITES and what comes behind, and "
        + "answers false.")
    static void powerWhenOff() {
        for (int n = 0; n <= 6; n++) {
            House h = House.one();
            h.mode(0, 5);
            h.power(0);
            h.sync();
            due("OFF", h.power(n), false);
            due("RESTORE has four, planned at " + n, h.restore(), n < 4 ? OFF : 4);
            due("done", h.count(0), 10 + Math.min(n, 4));
            if (n >= 4) {
                h.mode(0, 5);
                due("what comes behind", h.sync(), OFF);
                due("done", h.count(0), 10 + n);
            }
        }
        House h = House.off();
        due("none is planned", h.power(-1), false);
        due("still OFF", h.kind(0), OFF);
        h.restore();
        h.make(0, "a");
        due("sync", h.sync(), 4);
    }

    @Sentence(of = "V", is = "restore() when the power is on leaves a CUT planned.")
    static void planStays() {
        House h = House.one();
        h.power(6);
        due("four of six", h.restore(), 4);
        h.mode(0, 5);
        due("behind two more", h.sync(), OFF);
        due("done", h.count(0), 16);
        House z = House.small();
        z.power(0);
        due("no WRITE", z.restore(), 0);
        z.mode(0, 5);
        due("the first WRITE", z.sync(), OFF);
    }

    @Sentence(of = "V", is = "A CUT within RESTORE: OFF; the next restore() begins from the RECORD that counts then.")
    static void cutWithin() {
        for (int n = 0; n <= 69; n++) {
            House h = House.one();
            h.cleanTimes(12);
            h.power(n);
            due("BACK, DONE, THE JOURNAL's four, planned at " + n, h.restore(), n < 69 ? OFF : 69);
            h.power(-1);
            due("the next one", h.restore(), n <= 64 ? 69 : 4);
            due("DONE", h.count(4), 1);
            due("destroyed", h.count(12), 0);
        }
        for (int n = 0; n <= 69; n++) {
            House h = House.one();
            h.power(20);
            h.lay(0, "l", "x");
            h.power(n);
            due("zeros, a RECORD, THE JOURNAL's four, planned at " + n, h.restore(), n < 69 ? OFF : 69);
            h.power(-1);
            due("the next one", h.restore(), n <= 64 ? 69 : 4);
            due("destroyed", h.count(12), 0);
        }
    }

    @Sentence(of = "V", is = "A call that is OFF by a CUT did nothing but the WRITES ahead of it (what lay STREAMED is a "
        + "free band);")
    static void didNothing() {
        for (int n = 0; n < 66; n++) {
            House h = House.small();
            h.power(n);
            due("lay", h.lay(0, "l", "x"), OFF);
            h.restore();
            due("no NAME", h.size(0), 0);
            due("no NODE", h.kind(1), 0);
            due("a free band", h.count(8), 111);
            due("check", h.check(), 0);
            due("lay", h.lay(0, "l", "y"), 1);
            due("the same band", h.block(1, 0), 192);
            due("byte", h.byteAt(1, 4095), 'y');
        }
        for (int n = 42; n <= 45; n++) {
            House h = House.large().dirtyNodes(41);
            h.power(n);
            due("make, OFF in the COMMIT ahead", h.make(0, "new"), OFF);
            h.restore();
            due("no NAME", h.find(0, "new"), -12);
            due("COMMITTED with the 44th of its WRITES", h.rights(1, 1), n < 44 ? 52 : 7);
        }
    }

    @Sentence(of = "V", is = "RESTORE's answer counts all WRITES, those of STEPS too.")
    static void stepsCounted() {
        House h = House.one();
        for (int i = 0; i < 9; i++) {
            due("THE JOURNAL's four", h.restore(), 4);
        }
        due("FREE", h.count(5), 18);
        due("PICK ahead of the last one", h.restore(), 5);
        int before = h.writes();
        due("PICK, then three times MERGE", h.restore(), 4 + 1 + 24);
        due("all of them", h.writes() - before, 29);
    }

    @Sentence(of = "V", is = "What THE JOURNAL tells is told until an ENTRY with one of its SECTORS is done by another "
        + "COMMIT: each RESTORE writes it once more.")
    static void told() {
        House h = House.one();
        for (int i = 0; i < 3; i++) {
            due("once more", h.restore(), 4);
        }
        h.mode(0, 5);
        h.power(0);
        due("no ENTRY is done", h.sync(), OFF);
        due("told", h.restore(), 4);
        h.mode(0, 5);
        h.power(1);
        due("one ENTRY is done", h.sync(), OFF);
        due("not told", h.restore(), 0);
        h.mode(0, 5);
        h.power(3);
        due("all of THE JOURNAL's are done", h.sync(), OFF);
        due("the new one is told", h.restore(), 1);
        due("MODE", h.rights(0, 1), 5);
        // STEPS of the CLEANER and a STREAM write no SECTOR of THE JOURNAL.
        h.cleanAll();
        h.lay(0, "l", "x");
        due("told", h.restore(), 1);
        House s = House.one();
        for (int i = 0; i < 10; i++) {
            s.restore();
        }
        s.mode(0, 5);
        s.power(3);
        due("the STEP ahead of the first ENTRY is TORN", s.sync(), OFF);
        due("told: four, PICK, three of MERGE", s.restore(), 29);
    }

    @Sentence(of = "V", is = "A COMMIT counts (10) when the last one of THE JOURNAL is done.")
    static void commitCounts() {
        for (int n = 0; n <= 10; n++) {
            House h = House.small();
            h.make(0, "a");
            h.power(n);
            h.sync();
            due("with " + n + " of six and four done", h.count(10), n < 6 ? 0 : 1);
        }
        House h = House.one();
        h.restore();
        due("RESTORE COMMITS nothing", h.count(10), 1);
    }

    @Sentence(of = "V", is = "DONE's RECORD keeps the STREAMED band, and STREAMING's RECORDS what the CLEANER is at.")
    static void recordsKeep() {
        for (int n : new int[] {0, 64, 65, 75, 129, 130, 134}) {
            House h = House.one();
            h.cleanTimes(10);
            h.power(1 + 20);
            due("lay while the CLEANER is behind SAFE", h.lay(0, "l", "x"), OFF);
            h.power(n);
            due("BACK, DONE, zeros, a RECORD, THE JOURNAL's four", h.restore(), n < 134 ? OFF : 134);
            h.power(-1);
            due("the next one, behind " + n, h.restore(), n <= 64 ? 134 : n <= 129 ? 69 : 4);
        }
        House h = House.one();
        h.cleanTimes(10);
        due("lay", h.lay(0, "l", "x"), 2);
        due("the CLEANER is where it was", h.count(15), 5);
        due("BACK, DONE, THE JOURNAL's four", h.restore(), 69);
        due("MARK", h.mark(0), 10);
        House m = House.one();
        m.cleanTimes(4);
        m.lay(0, "l", "x");
        due("the CLEANER is where it was", m.count(14), 0);
        m.cleanTimes(5);
        due("next is SAFE", m.count(15), 4);
    }

    @Sentence(of = "V", is = "DONE counts (4) in RESTORE, too.")
    static void doneCounts() {
        House h = House.one();
        h.cleanTimes(10);
        due("ahead", h.count(4), 0);
        h.restore();
        due("behind", h.count(4), 1);
    }

    // ---- DIRTY

    @Sentence(of = "V", is = "DIRTY: a DIRECTORY's NODE is changed when it gets a BLOCK or another PARENT, not by SLOTS;")
    static void directoryDirty() {
        House h = House.small();
        h.dir(0, "d");
        h.dir(0, "e");
        h.sync();
        h.make(1, "f");
        due("a BLOCK: two NODES, THE MAP, it", h.sync(), 4);
        h.make(1, "g");
        due("SLOTS: the new NODE, their BLOCK", h.sync(), 2);
        h.drop(1, "g");
        due("SLOTS: the free NODE, their BLOCK", h.sync(), 2);
        h.rename(0, "e", 1, "e");
        due("another PARENT: its NODE, two BLOCKS of SLOTS", h.sync(), 3);
        h.rename(1, "e", 1, "i");
        due("the same PARENT: a BLOCK of SLOTS", h.sync(), 1);
    }

    @Sentence(of = "V", is = "a FILE's when its size changes, or a BLOCK that it tells itself (PIECES 0 .. 11, INDEX, "
        + "DOUBLE);")
    static void fileDirty() {
        House h = House.large();
        h.make(0, "a");
        h.put(1, 68351, "z");
        h.sync();
        int[][] rows = {{0, 3}, {11, 3}, {12, 4}, {13, 3}, {43, 3}, {44, 4}, {45, 3}, {1066, 3}};
        for (int[] row : rows) {
            h.put(1, 64 * row[0], "a");
            // The BLOCK, THE MAP; then the NODE (with a new INDEX, this too), or the INDEX (with a new one, the DOUBLE too).
            due("PIECE " + row[0], h.sync(), row[1]);
        }
        h.put(1, 0, "b");
        due("a PIECE that has a BLOCK", h.sync(), 1);
        h.cut(1, 68351);
        due("the size alone: the NODE, the last PIECE", h.sync(), 2);
        h.put(1, 68351, "z");
        due("the size alone: the NODE, the last PIECE", h.sync(), 2);
        House d = House.small();
        d.make(0, "a");
        d.put(1, 64 * 100, "z");
        d.sync();
        d.put(1, 64 * 50, "z");
        due("DOUBLE is there: DOUBLE, INDEX 0, BLOCK, THE MAP", d.sync(), 4);
        House t = House.small();
        t.make(0, "a");
        t.put(1, 64 * 20, "z");
        t.sync();
        t.put(1, 64 * 100, "z");
        due("DOUBLE is taken: NODE, DOUBLE, INDEX 1, BLOCK, THE MAP", t.sync(), 5);
    }

    @Sentence(of = "V", is = "one of LINKS, OWNER, MODE when these do; a NODE when it is taken or free.")
    static void othersDirty() {
        House h = House.kinds();
        h.sync();
        h.link(0, "g", 1);
        due("LINKS: NODE; the root's second BLOCK: it, NODE, THE MAP", h.sync(), 4);
        h.drop(0, "g");
        due("LINKS: NODE, SLOTS", h.sync(), 2);
        h.give(4, 3);
        due("OWNER", h.sync(), 1);
        h.mode(2, 3);
        due("MODE", h.sync(), 1);
        h.point(0, "q", "a");
        due("taken: NODE, SLOTS", h.sync(), 2);
        h.drop(0, "q");
        due("free: NODE, SLOTS", h.sync(), 2);
    }

    @Sentence(of = "V", is = "A SLOT is the lowest free one of the BLOCKS in order; only then a BLOCK more (it is changed "
        + "wholly).")
    static void lowestSlot() {
        House h = House.small().files(12);
        h.drop(0, "f5");
        h.drop(0, "f2");
        h.drop(0, "f9");
        h.sync();
        int[] blocks = {145, 146, 147};
        for (int i = 0; i < 3; i++) {
            int before = h.count(0);
            h.make(0, "n" + i);
            due("its NODE, a BLOCK of SLOTS", h.sync(), 2);
            for (int j = 0; j < 3; j++) {
                due("BLOCK " + j + " with NAME " + i, h.where(blocks[j]) >= before, i == j);
            }
        }
        due("none is free", h.block(0, 3), NONE);
        // What the next BLOCK held is no NAME.
        h.put(1, 0, "aaaaaaaa".repeat(8));
        due("the next BLOCK", h.block(1, 0), 148);
        h.cut(1, 0);
        h.make(0, "n3");
        due("a BLOCK more", h.block(0, 3), 148);
        due("NAMES", h.size(0), 13);
        due("nothing else", h.find(0, "aaaaaaaa"), -12);
    }

    @Sentence(of = "V", is = "A DIRECTORY gives BLOCKS back only when it is dropped.")
    static void keepsBlocks() {
        House h = House.small();
        h.dir(0, "d");
        for (int i = 0; i < 5; i++) {
            h.make(1, "f" + i);
        }
        due("free", h.count(8), 108);
        for (int i = 0; i < 5; i++) {
            due("drop", h.drop(1, "f" + i), 0);
        }
        due("empty", h.size(1), 0);
        due("its BLOCKS", h.block(1, 0) > 0 && h.block(1, 1) > 0, true);
        due("free", h.count(8), 108);
        due("dropped", h.drop(0, "d"), 2);
        due("free", h.count(8), 110);
        due("the root's stays", h.block(0, 0), 145);
    }

    @Sentence(of = "V", is = "put takes BLOCKS for the PIECES without one into which a byte goes, in order; just ahead of "
        + "one its INDEX, if that isn't there, and ahead of this the DOUBLE;")
    static void putTakes() {
        House h = House.large();
        h.make(0, "a");
        due("put", h.put(1, 64 * 11, 128), 128);
        due("put", h.put(1, 64 * 43, 128), 128);
        due("put", h.put(1, 64 * 75, 128), 128);
        int[][] rows = {{11, 149}, {-1, 150}, {12, 151}, {43, 152}, {-2, 153}, {-3, 154}, {44, 155}, {75, 156}, {-4, 157},
            {76, 158}, {10, NONE}, {13, NONE}, {42, NONE}, {45, NONE}, {74, NONE}, {77, NONE}};
        for (int[] row : rows) {
            due("block " + row[0], h.block(1, row[0]), row[1]);
        }
        due("64 bytes", h.put(1, 64, 64), 64);
        due("none for the byte behind", h.block(1, 2), NONE);
        due("none for the byte ahead", h.block(1, 0), NONE);
        due("one of three is there", h.put(1, 63, 66), 66);
        due("the first", h.block(1, 0), 160);
        due("the one that was there", h.block(1, 1), 159);
        due("the third", h.block(1, 2), 161);
    }

    @Sentence(of = "V", is = "a BLOCK taken is changed wholly (zeros); it changes each BLOCK into which a byte goes, and "
        + "needs BLOCKS for all at once (-16).")
    static void putChanges() {
        House h = House.one();
        h.put(1, 0, 64);
        h.sync();
        h.cut(1, 0);
        h.sync();
        h.put(1, 30, "z");
        due("the same BLOCK", h.block(1, 0), 146);
        due("zeros", h.byteAt(1, 0), 0);
        h.put(1, 63, "z");
        due("zeros", h.byteAt(1, 62), 0);
        h.sync();
        h.put(1, 0, 64);
        due("a BLOCK that is there", h.sync(), 1);
        h.put(1, 63, 66);
        due("two more: three, NODE, THE MAP", h.sync(), 5);
        h.put(1, 63, 66);
        due("what it holds already: three", h.sync(), 3);
        putNeeds();
    }

    /** From that byte on so many bytes need so many BLOCKS, of an empty FILE. */
    private static void putNeeds() {
        int[][] rows = {{0, 1, 1}, {63, 2, 2}, {64 * 11, 64, 1}, {64 * 11 + 63, 2, 3}, {64 * 12, 1, 2}, {64 * 13 - 1, 2, 3},
            {64 * 12, 129, 4}, {64 * 43, 64, 2}, {64 * 44 - 1, 2, 5}, {64 * 44, 64, 3}, {64 * 75, 64, 3},
            {64 * 76 - 1, 2, 5}, {64 * 76, 64, 3}, {64 * 77 - 1, 2, 4}, {68351, 1, 3}, {64 * 1036 - 1, 2, 5}};
        for (int[] row : rows) {
            for (int free = row[2] - 1; free <= row[2]; free++) {
                boolean enough = free == row[2];
                House h = House.small().leaveFree(free);
                h.make(0, "e");
                due("put at " + row[0] + " with " + free, h.put(4, row[0], row[1]), enough ? row[1] : -16);
                due("free behind it", h.count(8), enough ? 0 : free);
                due("size", h.size(4), enough ? row[0] + row[1] : 0);
                due("check", h.check(), 0);
            }
        }
        House i = House.small().leaveFree(3);
        i.make(0, "e");
        i.put(4, 64 * 12, "x");
        due("the INDEX is there", i.put(4, 64 * 43, "x"), 1);
        due("no more", i.put(4, 64 * 42, "x"), -16);
        due("nor one through a DOUBLE", i.put(4, 64 * 44, "x"), -16);
        House d = House.small().leaveFree(5);
        d.make(0, "e");
        d.put(4, 64 * 44, "x");
        due("the DOUBLE is there", d.put(4, 64 * 76, "x"), 1);
        due("no more", d.put(4, 64 * 77, "x"), -16);
        due("what is there", d.put(4, 64 * 76, 64), 64);
    }

    @Sentence(of = "V", is = "cut to a size that isn't a multiple of 64 changes the BLOCK of its last PIECE (zeros or "
        + "not), if it has one; to another size it doesn't.")
    static void cutChanges() {
        int[][] rows = {{100, 2}, {127, 2}, {65, 2}, {64, 2}, {63, 3}, {1, 3}, {0, 2}};
        for (int[] row : rows) {
            for (int i = 0; i < 2; i++) {
                House h = House.one();
                h.put(1, 0, i == 0 ? "x".repeat(128) : "\0".repeat(128));
                h.sync();
                h.cut(1, row[0]);
                // The NODE; the last PIECE if it is cut; THE MAP if PIECE 1 is given back.
                due("DIRTY with 128 cut to " + row[0], h.sync(), row[1]);
            }
        }
        House h = House.one();
        h.put(1, 192, "x");
        h.sync();
        h.cut(1, 193 - 1);
        due("PIECE 3 is given back: NODE, THE MAP", h.sync(), 2);
        h.cut(1, 100);
        due("a HOLE: the NODE", h.sync(), 1);
        h.cut(1, 64);
        due("a HOLE: the NODE", h.sync(), 1);
    }

    @Sentence(of = "V", is = "It gives back all behind the last PIECE that stays, an INDEX that tells none any more, a "
        + "DOUBLE that tells none; what it changes in one that stays is changed.")
    static void cutGivesBack() {
        int[][] rows = {
            // to so many bytes: BLOCKS given back, SECTORS DIRTY
            {64 * 77, 0, 1}, {64 * 76 + 1, 0, 2}, {64 * 76, 2, 3}, {64 * 46, 2, 3}, {64 * 45, 3, 4}, {64 * 44 + 1, 3, 5},
            {64 * 44, 6, 2}, {64 * 43, 7, 3}, {64 * 12 + 1, 7, 4}, {64 * 12, 9, 2}, {64 * 11, 10, 2}, {64, 10, 2},
            {1, 10, 3}, {0, 11, 2}};
        for (int[] row : rows) {
            House h = House.large();
            h.make(0, "a");
            h.put(1, 64 * 76, "x");
            h.put(1, 64 * 44, 128);
            h.put(1, 64 * 43, "x");
            h.put(1, 64 * 11, 128);
            h.put(1, 0, "x");
            h.put(1, 64 * 78, "x");
            h.cut(1, 64 * 77 + 1);
            h.sync();
            due("given back by a cut to " + row[0], h.cut(1, row[0]), row[1]);
            due("DIRTY by a cut to " + row[0], h.count(7), row[2]);
            due("INDEX", h.block(1, -1) > 0, row[0] > 64 * 12);
            due("DOUBLE", h.block(1, -2) > 0, row[0] > 64 * 44);
            due("INDEX 0", h.block(1, -3) > 0, row[0] > 64 * 44);
            due("INDEX 1", h.block(1, -4) > 0, row[0] > 64 * 76);
            due("check", h.check(), 0);
        }
    }

    @Sentence(of = "V", is = "The NODE of the DIRECTORY in which something is made, dropped, renamed is not changed but by "
        + "a BLOCK more.")
    static void directoryNode() {
        House h = House.small().files(3);
        h.sync();
        int root = h.where(81);
        h.make(0, "g");
        h.sync();
        h.drop(0, "g");
        h.sync();
        h.rename(0, "f0", 0, "h0");
        h.sync();
        due("made, dropped, renamed", h.where(81), root);
        h.make(0, "i");
        h.sync();
        due("the fourth NAME", h.where(81), root);
        h.make(0, "j");
        h.sync();
        due("a BLOCK more", h.where(81) > root, true);
    }

    @Sentence(of = "V", is = "rename changes the BLOCKS of both SLOTS, and the NODE that moves only if it is a DIRECTORY in "
        + "another DIRECTORY now.")
    static void renameDirty() {
        House h = House.small();
        h.dir(0, "d");
        h.dir(0, "e");
        h.make(0, "f");
        h.make(0, "g");
        h.make(1, "in");
        h.make(1, "out");
        h.sync();
        h.rename(0, "f", 0, "h");
        due("the same BLOCK", h.sync(), 1);
        h.rename(0, "h", 1, "h");
        due("a FILE elsewhere: two BLOCKS", h.sync(), 2);
        h.rename(0, "e", 1, "e");
        due("a DIRECTORY elsewhere: two BLOCKS, its NODE", h.sync(), 3);
        h.rename(1, "e", 1, "i");
        due("a DIRECTORY in the same: a BLOCK", h.sync(), 1);
        h.rename(1, "in", 1, "h");
        due("onto a FILE: a BLOCK, the free NODE", h.sync(), 2);
        // Its NAME comes to the lowest free SLOT, in the first BLOCK; it was in the second one.
        House b = House.small().files(5);
        b.drop(0, "f1");
        b.sync();
        b.rename(0, "f4", 0, "g");
        due("both BLOCKS of one DIRECTORY", b.sync(), 2);
        // What is dropped was in the second BLOCK, the free SLOT is in the first one.
        House c = House.small().files(6);
        c.drop(0, "f1");
        c.sync();
        c.rename(0, "f0", 0, "f5");
        due("the first BLOCK, that of what is dropped, its NODE", c.sync(), 3);
        due("NAMES", c.size(0), 4);
    }

    @Sentence(of = "V", is = "What was given back and is taken again is DIRTY by what is written.")
    static void takenAgain() {
        House h = House.one();
        h.put(1, 0, 64);
        h.sync();
        h.cut(1, 0);
        due("NODE, THE MAP", h.count(7), 2);
        h.put(1, 64, "z");
        due("the same BLOCK", h.block(1, 1), 146);
        due("it too", h.count(7), 3);
        House l = House.one();
        l.lay(0, "l", "x");
        l.put(2, 0, "abc");
        due("NODE, SLOTS, THE MAP, a BLOCK", l.count(7), 4);
        l.drop(0, "l");
        l.lay(0, "l", "y");
        due("STREAMED: NODE, SLOTS, THE MAP", l.count(7), 3);
        due("byte", l.byteAt(2, 0), 'y');
    }

    // ---- CALLS

    @Sentence(of = "V", is = "CALLS: rename: -10, -11, -12; the same NAME in the same DIRECTORY answers its NODE; then -18 "
        + "(into itself or what is within it), -13, -17, -16 (never, where something was dropped, nor in the same "
        + "DIRECTORY).")
    static void renameAnswers() {
        House h = House.small().files(46);
        h.dir(0, "d");
        h.dir(47, "e");
        h.dir(48, "in");
        h.make(47, "f");
        h.dir(0, "x");
        h.sync();
        due("48 NAMES", h.size(0), 48);
        due("the same NAME", h.rename(0, "f0", 0, "f0"), 1);
        due("the same NAME of a DIRECTORY", h.rename(0, "d", 0, "d"), 47);
        due("nothing is changed", h.count(7), 0);
        due("into itself", h.rename(0, "d", 47, "y"), -18);
        due("into what is within it", h.rename(0, "d", 48, "y"), -18);
        due("deeper", h.rename(0, "d", 49, "y"), -18);
        due("-18 ahead of -13", h.rename(0, "d", 47, "f"), -18);
        due("-18 ahead of -17", h.rename(0, "d", 47, "e"), -18);
        due("-13", h.rename(47, "f", 0, "d"), -13);
        due("-17", h.rename(0, "x", 0, "d"), -17);
        due("-17 by what is within it", h.rename(47, "e", 0, "d"), -17);
        due("-16", h.rename(47, "f", 0, "y"), -16);
        due("not in the same DIRECTORY", h.rename(0, "f1", 0, "y"), 2);
        due("not where something was dropped", h.rename(47, "f", 0, "f2"), 50);
        due("NAMES", h.size(0), 48);
        due("check", h.check(), 0);
        House b = House.small().leaveFree(0);
        b.dir(0, "s");
        due("no BLOCK for a SLOT", b.rename(0, "r1", 4, "r1"), -16);
        due("not in the same DIRECTORY", b.rename(0, "r1", 0, "r2"), 3);
    }

    @Sentence(of = "V", is = "What is dropped there and has LINKS left stays with one less.")
    static void renameLinks() {
        House h = House.small().files(2);
        h.put(1, 0, 64);
        h.link(0, "l", 1);
        due("rename", h.rename(0, "f1", 0, "f0"), 2);
        due("one less", h.links(1), 1);
        due("its BLOCK", h.block(1, 0), 146);
        due("its other NAME", h.find(0, "l"), 1);
        due("rename", h.rename(0, "f0", 0, "l"), 2);
        due("none left", h.kind(1), 0);
        due("its BLOCK is free", h.count(8), 110);
        due("check", h.check(), 0);
    }

    @Sentence(of = "V", is = "Of what is dropped there the BLOCKS are given back first, if it has no LINKS left.")
    static void renameGivesBack() {
        House h = House.small().leaveFree(0);
        h.link(0, "l", 3);
        due("none is free", h.count(8), 0);
        due("no SLOT, no BLOCK", h.link(0, "m", 3), -16);
        due("rename", h.rename(0, "r1", 0, "r0"), 3);
        due("44 PIECES and the INDEX", h.count(8), 45);
        due("a SLOT", h.link(0, "m", 3), 3);
        due("check", h.check(), 0);
        House d = House.small();
        d.dir(0, "d");
        d.dir(0, "e");
        d.make(2, "f");
        d.drop(2, "f");
        due("free", d.count(8), 109);
        due("a DIRECTORY onto an empty one", d.rename(0, "d", 0, "e"), 1);
        due("its BLOCK", d.count(8), 110);
    }

    @Sentence(of = "V", is = "lay looks at bands behind the COMMIT ahead; the highest one is taken, then a SLOT is looked "
        + "for, or the lowest free BLOCK outside of it.")
    static void layLooks() {
        for (int modes = 37; modes <= 38; modes++) {
            House h = House.small();
            h.lay(0, "l", "x");
            h.files(40);
            h.sync();
            h.drop(0, "l");
            for (int i = 0; i < modes; i++) {
                h.mode(2 + i, 1);
            }
            due("DIRTY", h.count(7), modes + 3);
            due("the band is free with the COMMIT ahead alone", h.lay(0, "m", "y"), modes == 37 ? -16 : 1);
        }
        House s = new House(6, 8, 1, 64);
        due("lay", s.lay(0, "l", "x"), 1);
        due("the highest", s.block(1, 0), 320);
        due("lay", s.lay(0, "m", "x"), 2);
        due("the highest of those left", s.block(2, 0), 256);
        layOutside();
    }

    /** BLOCKS below band 3 and the first one of band 4 are used, all others free; the root has four NAMES. */
    private static void layOutside() {
        House h = new House(5, 8, 1, 80);
        h.lay(0, "l4", "x");
        h.lay(0, "l3", "x");
        h.make(0, "r0");
        h.make(0, "r1");
        for (int i = 0; h.count(8) > 0; i++) {
            h.feed(1, 2, 3, 4, 5);
            h.put(3 + i / 44, 64 * (i % 44));
        }
        h.drop(0, "l4");
        h.feed(1, 2, 3, 4, 5);
        due("a BLOCK", h.put(4, 64 * 10), 20);
        due("of band 4", h.block(4, 10), 256);
        h.drop(0, "l3");
        h.make(0, "s0");
        h.make(0, "s1");
        h.sync();
        due("lay", h.lay(0, "l", "y"), 5);
        due("the highest that is free", h.block(5, 0), 192);
        due("SLOTS outside of it", h.block(0, 1), 257);
        due("check", h.check(), 0);
    }

    @Sentence(of = "V", is = "put without bytes: -14, -20, -15, or 0.")
    static void putNothing() {
        House h = House.kinds();
        h.sync();
        due("a DIRECTORY", h.put(0, 0), -14);
        due("a POINTER", h.put(4, 0), -14);
        due("no NODE", h.put(-1, -1), -14);
        due("-14 ahead of -15", h.put(2, -1), -14);
        int[][] rows = {{1, 0, 0}, {1, 3, 0}, {1, 68352, 0}, {1, 68353, -15}, {1, -1, -15}, {3, 0, 0}, {3, 4096, 0},
            {3, 4097, -15}, {3, -1, -15}, {1, Integer.MAX_VALUE, -15}, {1, Integer.MIN_VALUE, -15}};
        for (int[] row : rows) {
            due("put at " + row[1] + " of " + row[0], h.put(row[0], row[1]), row[2]);
        }
        due("size", h.size(1), 3);
        due("DIRTY", h.count(7), 0);
        h.as(9);
        due("without WRITE", h.put(1, 0), -20);
        due("-20 ahead of -15", h.put(1, -1), -20);
        House f = House.small().leaveFree(0);
        due("no BLOCK is wanted", f.put(3, 64), 0);
    }

    @Sentence(of = "V", is = "mode and give with what there is already change nothing (and answer it).")
    static void alreadyThere() {
        House h = House.kinds();
        h.sync();
        due("mode", h.mode(1, 52), 52);
        due("mode", h.mode(2, 61), 61);
        due("mode of the root", h.mode(0, 63), 63);
        due("give", h.give(1, 0), 0);
        due("give a POINTER", h.give(4, 0), 0);
        due("DIRTY", h.count(7), 0);
        h.mode(1, 0);
        h.give(1, 15);
        h.sync();
        due("mode", h.mode(1, 0), 0);
        due("give", h.give(1, 15), 15);
        due("DIRTY", h.count(7), 0);
    }

    @Sentence(of = "V", is = "-20 of DIRECTORIES: WRITE and GO, both; of link the DIRECTORY's alone.")
    static void writeAndGo() {
        for (int bits = 0; bits < 8; bits++) {
            boolean may = (bits & 3) == 3;
            House h = House.owned();
            h.point(1, "p", "f");
            h.mode(2, 0);
            h.mode(1, bits);
            h.as(4);
            h.make(0, "r");
            due("make with " + bits, h.make(1, "a"), may ? 5 : -20);
            due("dir with " + bits, h.dir(1, "b"), may ? 6 : -20);
            due("lay with " + bits, h.lay(1, "c", "x"), may ? 7 : -20);
            due("point with " + bits, h.point(1, "d", "x"), may ? 8 : -20);
            due("link with " + bits + ", to what he may not", h.link(1, "e", 2), may ? 2 : -20);
            due("rename out with " + bits, h.rename(1, "f", 0, "f"), may ? 2 : -20);
            due("rename in with " + bits, h.rename(0, "r", 1, "r"), may ? 4 : -20);
            due("drop with " + bits, h.drop(1, "p"), may ? 0 : -20);
        }
        House h = House.owned();
        h.as(4);
        due("a link elsewhere to a FILE of a DIRECTORY of another's", h.link(0, "l", 2), 2);
    }

    @Sentence(of = "V", is = "rename and drop go by NAMES: a POINTER is renamed, dropped itself.")
    static void pointerItself() {
        House h = House.kinds();
        h.make(0, "a");
        h.point(0, "to", "a");
        due("renamed", h.rename(0, "to", 2, "too"), 6);
        due("kind", h.kind(6), 4);
        due("where it led", h.find(0, "a"), 5);
        due("dropped", h.drop(2, "too"), 0);
        due("free", h.kind(6), 0);
        due("where it led", h.kind(5), 1);
        h.point(0, "dir", "d");
        due("a POINTER to a DIRECTORY that isn't empty", h.drop(0, "dir"), 0);
        h.point(0, "in", "d");
        due("into where it led", h.rename(0, "d", 2, "x"), -18);
        due("a POINTER is no DIRECTORY", h.rename(0, "in", 2, "in"), 6);
    }

    @Sentence(of = "V", is = "block() of a POINTER: NONE.")
    static void pointerBlock() {
        House h = House.kinds();
        for (int k = -4; k <= 40; k++) {
            due("block " + k, h.block(4, k), NONE);
        }
    }

    @Sentence(of = "V", is = "An empty PATH is where one begins.")
    static void emptyPath() {
        House h = House.kinds();
        due("the root", h.walk(0, ""), 0);
        due("a DIRECTORY", h.walk(2, ""), 2);
        due("no DIRECTORY", h.walk(1, ""), -10);
        h.mode(2, 0);
        h.as(5);
        due("without GO", h.walk(2, ""), 2);
    }

    @Sentence(of = "V", is = "A part that has any byte that is none of a NAME's (0, too), or more than 8 bytes, is no NAME.")
    static void noNameInPath() {
        for (int b = 0; b < 256; b++) {
            boolean good = b >= 'a' && b <= 'z' || b >= '0' && b <= '9' || b == '-' || b == '_' || b == '.';
            House h = House.small();
            due("byte " + b, h.walk(0, "x" + (char) b), good || b == '/' ? -12 : -11);
            due("byte " + b + " first", h.walk(0, (char) b + "x"), good || b == '/' ? -12 : -11);
            due("byte " + b + " last of eight", h.walk(0, "xxxxxxx" + (char) b), good || b == '/' ? -12 : -11);
        }
        House h = House.small();
        h.make(0, "12345678");
        due("8 bytes", h.walk(0, "12345678"), 1);
        due("9 bytes", h.walk(0, "123456789"), -11);
        due("a 0 as the 9th", h.walk(0, "12345678\0"), -11);
        due("a 0 behind", h.walk(0, "1\0"), -11);
        due("1280 bytes", h.walk(0, "1".repeat(1280)), -11);
    }

    @Sentence(of = "V", is = "A WALK's parts are read from the left, of a TEXT like those of the tape; a TEXT that begins "
        + "with / begins at the root.")
    static void readFromTheLeft() {
        House h = House.small();
        h.dir(0, "a");
        h.dir(1, "a");
        h.make(2, "f");
        h.point(1, "abs", "/a/a");
        h.point(1, "rel", "a");
        h.point(1, "root", "/");
        h.point(1, "mess", "//./a/../a//");
        h.point(1, "bad", "a/A/f");
        h.point(1, "gone", "x/A");
        due("at the root", h.walk(0, "a/abs"), 2);
        due("where its NAME stands", h.walk(1, "rel"), 2);
        due("the root", h.walk(1, "root"), 0);
        due("parts without bytes, . and ..", h.walk(1, "mess"), 1);
        due("no NAME", h.walk(1, "bad"), -11);
        due("nothing first", h.walk(1, "gone"), -12);
        due("what is wrong in the TEXT ahead of what is behind it", h.walk(1, "gone/A"), -12);
        due("what is wrong ahead of the TEXT", h.walk(1, "A/gone"), -11);
    }

    @Sentence(of = "V", is = "Behind a TEXT the parts that are left are gone on with where it led.")
    static void behindText() {
        House h = House.small();
        h.dir(0, "a");
        h.dir(1, "b");
        h.make(2, "f");
        h.point(0, "p", "a");
        h.point(0, "q", "p/b");
        h.point(0, "r", "q/f");
        due("one", h.walk(0, "p/b"), 2);
        due("two", h.walk(0, "q/f"), 3);
        due("three", h.walk(0, "r"), 3);
        due("the PARENT of where it led", h.walk(0, "q/.."), 1);
        due("not of where it stands", h.walk(0, "q/p"), -12);
        due("behind a FILE", h.walk(0, "r/.."), -12);
        due("behind a FILE, no bytes", h.walk(0, "r/"), -12);
        // A TEXT that is left with parts of its own when another one is come to.
        h.point(2, "up", "../..");
        h.point(0, "s", "q/up/a/b");
        due("parts of three TEXTS and of the tape", h.walk(0, "s/up/p/b/f"), 3);
        // Eight TEXTS, each left with a part of its own: 1 .. 9 are DIRECTORIES within one another.
        House n = House.small();
        for (int i = 0; i < 9; i++) {
            n.dir(i, "d");
        }
        n.point(0, "p0", "d/.");
        for (int i = 1; i < 9; i++) {
            n.point(0, "p" + i, "p" + (i - 1) + "/d");
        }
        due("eight", n.walk(0, "p7/d"), 9);
        due("eight, and two parts", n.walk(0, "p7/d/.."), 8);
        due("nine", n.walk(0, "p8/d"), -19);
    }

    @Sentence(of = "V", is = "A number that is none of a NODE: -10 where a DIRECTORY is asked, -14 where a FILE.")
    static void noNumber() {
        for (int node : new int[] {-1, 64, Integer.MIN_VALUE, Integer.MAX_VALUE}) {
            House h = House.kinds();
            h.tape("abc");
            due("make", h.make(node, "x"), -10);
            due("dir", h.dir(node, "x"), -10);
            due("link", h.link(node, "x", 1), -10);
            due("drop", h.drop(node, "f"), -10);
            due("rename", h.rename(node, "f", 0, "x"), -10);
            due("rename", h.rename(0, "f", node, "x"), -10);
            due("find", h.find(node, "f"), -10);
            due("entry", h.entry(node, 0), -10);
            due("name", h.name(node, 0), -10);
            due("parent", h.parent(node), -10);
            due("lay", h.lay(node, 'x'), -10);
            due("point", h.point(node, "x", "a"), -10);
            due("walk", h.walk(node, "f"), -10);
            due("link", h.link(0, "x", node), -14);
            due("put", h.put(node, 0, "a"), -14);
            due("cut", h.cut(node, 0), -14);
            due("links", h.links(node), -14);
            due("byteAt", h.byteAt(node, 0), -14);
        }
    }

    @Sentence(of = "V", is = "A long with a 0 between its bytes, or 0, is no NAME.")
    static void zeroBetween() {
        House h = House.small();
        due("0", h.make(0, 0), -11);
        for (int at = 0; at < 7; at++) {
            long name = House.n("abcdefgh") & ~(255L << 8 * at);
            due("0 at " + at, h.make(0, name), -11);
        }
        due("0 above them", h.make(0, House.n("abcdefgh") & ~(255L << 56)), 1);
        due("the last alone", h.make(0, (long) 'a' << 56), -11);
    }

    @Sentence(of = "V", is = ". and .. are NAMES where a long is asked (walk never comes to them).")
    static void dots() {
        House h = House.small();
        due(".", h.make(0, "."), 1);
        due("..", h.dir(0, ".."), 2);
        due("found", h.find(0, "."), 1);
        due("found", h.find(0, ".."), 2);
        due("in order", h.name(0, 0), House.n("."));
        due("in order", h.name(0, 1), House.n(".."));
        due("not come to", h.walk(0, "."), 0);
        due("not come to", h.walk(0, ".."), 0);
        due("not come to", h.walk(2, ".."), 0);
        due("a NAME", h.make(0, "..."), 3);
        due("come to", h.walk(0, "..."), 3);
        due("renamed", h.rename(0, ".", 2, ".."), 1);
        due("dropped", h.drop(2, ".."), 0);
    }

    @Sentence(of = "V", is = "k below 0 (but for block()), or beyond: NONE (behind -10, -20).")
    static void places() {
        House h = House.kinds();
        for (int k : new int[] {-1, -2, -3, 4, 48, Integer.MIN_VALUE, Integer.MAX_VALUE}) {
            due("entry " + k, h.entry(0, k), NONE);
            due("name " + k, h.name(0, k), NONE);
            due("entry of none " + k, h.entry(1, k), -10);
            due("name of none " + k, h.name(1, k), -10);
        }
        for (int k : new int[] {-1, 3, 64, Integer.MIN_VALUE, Integer.MAX_VALUE}) {
            due("byteAt " + k, h.byteAt(1, k), NONE);
        }
        due("the last one", h.entry(0, 3), 4);
        h.mode(0, 0);
        h.mode(1, 0);
        h.as(2);
        due("entry", h.entry(0, -1), -20);
        due("name", h.name(0, 4), -20);
        due("byteAt", h.byteAt(1, -1), -20);
    }

    @Sentence(of = "V", is = "lay's bytes begin anew behind the tape's last one, wherever that is, and end with the band.")
    static void layBytes() {
        for (int n : new int[] {1, 2, 3, 20, 63, 64, 65, 100, 511, 512, 513, 1279, 1280}) {
            StringBuilder s = new StringBuilder();
            for (int i = 0; i < n; i++) {
                s.append((char) (i * 7 % 251 + (i == n - 1 ? 3 : 0)));
            }
            House h = House.small();
            due("lay", h.lay(0, "l", s.toString()), 1);
            for (int at = 0; at < 4096; at += at % 64 == 63 || at % n == n - 1 && n > 60 ? 1 : 31) {
                due("byte " + at + " of a tape of " + n, h.byteAt(1, at), s.charAt(at % n));
            }
            due("the last byte", h.byteAt(1, 4095), s.charAt(4095 % n));
            due("none behind", h.byteAt(1, 4096), NONE);
        }
    }

    @Sentence(of = "V", is = "A STEP of KIND 0 is one, too.")
    static void stepOfNothing() {
        House h = House.small();
        due("clean", h.clean(), 0);
        due("clean", h.clean(), 0);
        due("next", h.count(15), 0);
        due("no WRITE", h.writes(), 0);
    }

    @Sentence(of = "V", is = "scrub() is L less the free BLOCKS.")
    static void scrubbed() {
        House h = House.kinds();
        due("scrub", h.scrub(), 256 - h.count(8));
        due("SLOTS, a PIECE, SLOTS, a band", h.scrub(), 145 + 3 + 64);
        House f = House.small().leaveFree(0);
        due("all", f.scrub(), 256);
    }

    @Sentence(of = "V", is = "The band at which the CLEANER is: that of count(14).")
    static void cleanersBand() {
        // A LAID FILE, changed and dropped, leaves most LIVE ENTRIES in its band: there no other one is laid.
        House h = new House(5, 8, 1, 256);
        h.lay(0, "q", "x");
        h.sync();
        for (int i = 0; i < 2; i++) {
            h.put(1, i * 1024, 1024);
            h.sync();
        }
        h.drop(0, "q");
        h.sync();
        due("PICK", h.clean(), 2);
        due("its band", h.count(14), 4);
        due("lay", h.lay(0, "a", "x"), 1);
        due("not there", h.block(1, 0), 192);
        due("no other band", h.lay(0, "b", "x"), -16);
        h.cleanTimes(18);
        due("idle", h.count(14), NONE);
        due("lay", h.lay(0, "b", "x"), 2);
        due("there", h.block(2, 0), 256);
    }

    @Sentence(of = "V", is = "Without a COMMIT RESTORE writes nothing for THE JOURNAL.")
    static void withoutCommit() {
        House h = House.small();
        due("at first", h.restore(), 0);
        h.make(0, "a");
        due("DIRTY alone", h.restore(), 0);
        h.make(0, "a");
        h.power(5);
        h.sync();
        due("no COMMIT", h.count(10), 0);
        due("THE JOURNAL is not ended", h.restore(), 0);
        due("no ENTRY", h.count(0), 5);
    }

    @Sentence(of = "V", is = "block() with -1 of what has no INDEX: NONE; of a LAID FILE 8 T band + k.")
    static void blocks() {
        House h = House.kinds();
        for (int node = 0; node <= 5; node++) {
            due("-1 of NODE " + node, h.block(node, -1), NONE);
            due("-2 of NODE " + node, h.block(node, -2), NONE);
            due("-3 of NODE " + node, h.block(node, -3), NONE);
        }
        for (int k = 0; k < 64; k++) {
            due("LAID FILE " + k, h.block(3, k), 192 + k);
        }
        due("LAID FILE 64", h.block(3, 64), NONE);
        House l = new House(8, 9, 1, 64);
        l.lay(0, "l", "x");
        due("8 T band", l.block(1, 0), 8 * 9 * 7);
        due("the last one", l.block(1, 71), 575);
        due("beyond", l.block(1, 72), NONE);
    }

    @Sentence(of = "V", is = "count(15) is what clean() would answer.")
    static void nextStep() {
        House h = House.small().commitRoot(5);
        for (int i = 0; i < 60; i++) {
            int next = h.count(15);
            due("STEP " + i, h.clean(), next);
        }
        due("nothing is left", h.count(15), 0);
        House p = House.one();
        p.power(0);
        due("with a CUT planned, too", p.count(15), 2);
    }

    public static void main(String[] args) throws IllegalAccessException {
        run(CloserEdgesTest.class);
    }
}
