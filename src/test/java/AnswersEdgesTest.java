import java.util.ArrayList;
import java.util.List;

/** Part IV of the document, ANSWERS, sentence by sentence. */
public final class AnswersEdgesTest extends Edges {
    /** A call that makes something that has a NAME in a DIRECTORY. */
    interface Makes {
        int on(House h, int dir, long name);
    }

    /** A call that is refused. */
    private static final class Refusal {
        final String what;
        final Acts scene;
        final int due;
        final Asks call;
        /** It uses the tape up, whatever it answers. */
        final boolean tape;
        /** Something that is told later holds, too. */
        final boolean first;

        Refusal(String what, Acts scene, int due, Asks call, boolean first) {
            this.what = what;
            this.scene = scene;
            this.due = due;
            this.call = call;
            this.first = first;
            this.tape = what.startsWith("lay") || what.startsWith("point") || what.startsWith("put")
                || what.startsWith("walk");
        }
    }

    private static final List<Refusal> ALL = new ArrayList<>();
    private static final int[] NO_NODES = {-1, 64, 65, Integer.MIN_VALUE, Integer.MAX_VALUE};
    private static final long[] NO_NAMES = {0, 'A', House.n("a/b"), House.n("a\0b"), -1, Long.MIN_VALUE};

    private static void refuse(String what, Acts scene, int due, Asks call) {
        ALL.add(new Refusal(what, scene, due, call, false));
    }

    private static void refuseFirst(String what, Acts scene, int due, Asks call) {
        ALL.add(new Refusal(what, scene, due, call, true));
    }

    // ---- scenes; the tape has three bytes behind each

    /** 1 is a FILE named f, 2 a DIRECTORY d with a NAME f, 3 a LAID FILE l, 4 a POINTER p. */
    private static void kinds(House h) {
        h.oneOfEach().tape("abc");
    }

    /** User 4 acts; the DIRECTORY d (1) of user 3 lets him READ and GO, that FILE f (2) in it READ. */
    private static void others(House h) {
        h.as(3);
        h.dir(0, "d");
        h.make(1, "f");
        h.dir(1, "sub");
        h.point(1, "p", "f");
        h.make(3, "in");
        h.as(4);
        h.tape("abc");
    }

    /** The same, but that others have no right at all in d and f. */
    private static void closed(House h) {
        others(h);
        h.as(3);
        h.mode(1, 56);
        h.mode(2, 56);
        h.as(4);
    }

    /** The root has 48 NAMES: f0 .. f45, a DIRECTORY d (47) with z (49) and a DIRECTORY y (50) in it, an empty one e (48). */
    private static void noSlot(House h) {
        h.files(46);
        h.dir(0, "d");
        h.dir(0, "e");
        h.make(47, "z");
        h.dir(47, "y");
        h.tape("abc");
    }

    /** All NODES are used: f0 .. f46 and a DIRECTORY d (48) with 15. */
    private static void noNode(House h) {
        h.files(47);
        h.dir(0, "d");
        for (int i = 0; i < 15; i++) {
            h.make(48, "g" + i);
        }
        h.tape("abc");
    }

    /** No BLOCK is free, and the root (laid, r0, r1, s) has no free SLOT; an empty DIRECTORY (4) has no BLOCK. */
    private static void noBlock(House h) {
        h.leaveFree(0);
        h.dir(0, "s");
        h.tape("abc");
    }

    /** The FILE f (1) has 255 LINKS: one in the root, 48 in each of d0 .. d4 (2 .. 6), 14 in d5 (7); 2 .. 6 are full. */
    private static void linked(House h) {
        h.make(0, "f");
        for (int i = 0; i < 6; i++) {
            h.dir(0, "d" + i);
        }
        for (int i = 0; i < 254; i++) {
            h.link(2 + i / 48, "l" + i, 1);
        }
        h.tape("abc");
    }

    /** POINTERS in the root: here (2) leads to it; a DIRECTORY d (1) of user 3, without GO for others, has p (3). */
    private static void pointers(House h) {
        h.as(3);
        h.dir(0, "d");
        h.point(0, "here", ".");
        h.point(1, "p", "..");
        h.mode(1, 56);
        h.make(0, "f");
        h.as(4);
    }

    private static void makers(String what, Makes m) {
        for (int node : new int[] {1, 3, 4, 5, 63}) {
            refuse(what + " in NODE " + node, AnswersEdgesTest::kinds, -10, h -> m.on(h, node, 'x'));
        }
        for (int node : NO_NODES) {
            refuse(what + " in no NODE " + node, AnswersEdgesTest::kinds, -10, h -> m.on(h, node, 'x'));
        }
        for (long name : NO_NAMES) {
            refuse(what + " of no NAME " + name, AnswersEdgesTest::kinds, -11, h -> m.on(h, 0, name));
        }
        refuse(what + " without WRITE", AnswersEdgesTest::others, -20, h -> m.on(h, 1, 'x'));
        refuse(what + " of a NAME that is there", AnswersEdgesTest::kinds, -13, h -> m.on(h, 0, 'p'));
        refuse(what + " without a SLOT", AnswersEdgesTest::noSlot, -16, h -> m.on(h, 0, 'x'));
        refuse(what + " without a NODE", AnswersEdgesTest::noNode, -16, h -> m.on(h, 48, 'x'));
        refuse(what + " without a BLOCK", AnswersEdgesTest::noBlock, -16, h -> m.on(h, 0, 'x'));
        refuse(what + " without a first BLOCK", AnswersEdgesTest::noBlock, -16, h -> m.on(h, 4, 'x'));
        refuseFirst(what + ": -10 ahead of -11", AnswersEdgesTest::kinds, -10, h -> m.on(h, 1, 0));
        refuseFirst(what + ": -11 ahead of -20", AnswersEdgesTest::others, -11, h -> m.on(h, 1, 0));
        refuseFirst(what + ": -20 ahead of -13", AnswersEdgesTest::others, -20, h -> m.on(h, 1, 'f'));
        refuseFirst(what + ": -13 ahead of -16", AnswersEdgesTest::noSlot, -13, h -> m.on(h, 0, 'd'));
    }

    private static void tapeMakers(String what, Makes m) {
        refuse(what + " without bytes", h -> {
            kinds(h);
            h.end(0);
        }, -15, h -> m.on(h, 0, 'x'));
        refuseFirst(what + ": -13 ahead of -15", h -> {
            kinds(h);
            h.end(0);
        }, -13, h -> m.on(h, 0, 'f'));
        refuseFirst(what + ": -15 ahead of -16", h -> {
            noNode(h);
            h.end(0);
        }, -15, h -> m.on(h, 48, 'x'));
    }

    private static void linkRefusals() {
        refuse("link in a FILE", AnswersEdgesTest::kinds, -10, h -> h.link(1, "x", 1));
        refuse("link in no NODE", AnswersEdgesTest::kinds, -10, h -> h.link(64, "x", 1));
        refuse("link of no NAME", AnswersEdgesTest::kinds, -11, h -> h.link(0, 0, 1));
        refuse("link without WRITE", AnswersEdgesTest::others, -20, h -> h.link(1, "x", 2));
        for (int node : new int[] {0, 2, 4, 5, -1, 64, Integer.MIN_VALUE, Integer.MAX_VALUE}) {
            refuse("link to NODE " + node, AnswersEdgesTest::kinds, -14, h -> h.link(0, "x", node));
        }
        refuse("link of a NAME that is there", AnswersEdgesTest::kinds, -13, h -> h.link(0, "f", 3));
        refuse("link, the 256th", AnswersEdgesTest::linked, -15, h -> h.link(7, "x", 1));
        refuse("link without a SLOT", AnswersEdgesTest::noSlot, -16, h -> h.link(0, "x", 1));
        refuse("link without a BLOCK", AnswersEdgesTest::noBlock, -16, h -> h.link(4, "x", 1));
        refuseFirst("link: -10 ahead of -11", AnswersEdgesTest::kinds, -10, h -> h.link(1, 0, 0));
        refuseFirst("link: -11 ahead of -20", AnswersEdgesTest::others, -11, h -> h.link(1, 0, 2));
        refuseFirst("link: -20 ahead of -14", AnswersEdgesTest::others, -20, h -> h.link(1, "x", 1));
        refuseFirst("link: -14 ahead of -13", AnswersEdgesTest::kinds, -14, h -> h.link(0, "f", 2));
        refuseFirst("link: -13 ahead of -15", AnswersEdgesTest::linked, -13, h -> h.link(2, "l0", 1));
        refuseFirst("link: -15 ahead of -16", AnswersEdgesTest::linked, -15, h -> h.link(2, "x", 1));
    }

    private static void byteRefusals() {
        for (int node : new int[] {0, 2, 4, 5, -1, 64}) {
            refuse("put into NODE " + node, AnswersEdgesTest::kinds, -14, h -> h.put(node, 0));
            refuse("cut NODE " + node, AnswersEdgesTest::kinds, -14, h -> h.cut(node, 0));
        }
        for (int node : new int[] {0, 2, 5, -1, 64}) {
            refuse("byteAt of NODE " + node, AnswersEdgesTest::kinds, -14, h -> h.byteAt(node, 0));
        }
        refuse("cut a LAID FILE", AnswersEdgesTest::kinds, -14, h -> h.cut(3, 0));
        refuse("put without WRITE", AnswersEdgesTest::others, -20, h -> h.put(2, 0));
        refuse("cut without WRITE", AnswersEdgesTest::others, -20, h -> h.cut(2, 0));
        refuse("byteAt without READ", AnswersEdgesTest::closed, -20, h -> h.byteAt(2, 0));
        int[][] places = {{1, -1}, {1, Integer.MIN_VALUE}, {1, 68350}, {1, 68352}, {1, Integer.MAX_VALUE},
            {3, -1}, {3, 4094}, {3, 4096}, {3, Integer.MAX_VALUE}};
        for (int[] p : places) {
            refuse("put at " + p[1], AnswersEdgesTest::kinds, -15, h -> h.put(p[0], p[1]));
        }
        for (int size : new int[] {-1, 4, Integer.MIN_VALUE, Integer.MAX_VALUE}) {
            refuse("cut to " + size, AnswersEdgesTest::kinds, -15, h -> h.cut(1, size));
        }
        refuse("put without a BLOCK", AnswersEdgesTest::noBlock, -16, h -> h.put(3, 64 * 40));
        refuseFirst("put: -14 ahead of -20", AnswersEdgesTest::others, -14, h -> h.put(1, 0));
        refuseFirst("put: -14 ahead of -15", AnswersEdgesTest::kinds, -14, h -> h.put(2, -1));
        refuseFirst("put: -20 ahead of -15", AnswersEdgesTest::others, -20, h -> h.put(2, -1));
        refuseFirst("put: -15 ahead of -16", AnswersEdgesTest::noBlock, -15, h -> h.put(3, 68350));
        refuseFirst("cut: -14 ahead of -20", AnswersEdgesTest::others, -14, h -> h.cut(1, 0));
        refuseFirst("cut: -14 ahead of -15", AnswersEdgesTest::kinds, -14, h -> h.cut(3, -1));
        refuseFirst("cut: -20 ahead of -15", AnswersEdgesTest::others, -20, h -> h.cut(2, -1));
        refuseFirst("byteAt: -14 ahead of -20", AnswersEdgesTest::closed, -14, h -> h.byteAt(1, 0));
        refuseFirst("byteAt: -20 ahead of NONE", AnswersEdgesTest::closed, -20, h -> h.byteAt(2, -1));
    }

    private static void dropRefusals() {
        refuse("drop in a FILE", AnswersEdgesTest::kinds, -10, h -> h.drop(1, "f"));
        refuse("drop in no NODE", AnswersEdgesTest::kinds, -10, h -> h.drop(-1, "f"));
        refuse("drop of no NAME", AnswersEdgesTest::kinds, -11, h -> h.drop(0, 0));
        refuse("drop without WRITE", AnswersEdgesTest::others, -20, h -> h.drop(1, "f"));
        refuse("drop of nothing", AnswersEdgesTest::kinds, -12, h -> h.drop(0, "x"));
        refuse("drop of a DIRECTORY", AnswersEdgesTest::kinds, -17, h -> h.drop(0, "d"));
        refuseFirst("drop: -10 ahead of -11", AnswersEdgesTest::kinds, -10, h -> h.drop(1, 0));
        refuseFirst("drop: -11 ahead of -20", AnswersEdgesTest::others, -11, h -> h.drop(1, 0));
        refuseFirst("drop: -20 ahead of -12", AnswersEdgesTest::others, -20, h -> h.drop(1, "x"));
        refuseFirst("drop: -20 ahead of -17", AnswersEdgesTest::others, -20, h -> h.drop(1, "sub"));
    }

    private static void renameRefusals() {
        refuse("rename in a FILE", AnswersEdgesTest::kinds, -10, h -> h.rename(1, "f", 0, "x"));
        refuse("rename into a FILE", AnswersEdgesTest::kinds, -10, h -> h.rename(0, "f", 1, "x"));
        refuse("rename into no NODE", AnswersEdgesTest::kinds, -10, h -> h.rename(0, "f", 64, "x"));
        refuse("rename of no NAME", AnswersEdgesTest::kinds, -11, h -> h.rename(0, 0, 0, 'x'));
        refuse("rename to no NAME", AnswersEdgesTest::kinds, -11, h -> h.rename(0, 'f', 0, 0));
        refuse("rename out without WRITE", AnswersEdgesTest::others, -20, h -> h.rename(1, "f", 0, "x"));
        refuse("rename in without WRITE", h -> {
            others(h);
            h.make(0, "r");
        }, -20, h -> h.rename(0, "r", 1, "r"));
        refuse("rename of nothing", AnswersEdgesTest::kinds, -12, h -> h.rename(0, "x", 0, "y"));
        refuse("rename of nothing to its own NAME", AnswersEdgesTest::kinds, -12, h -> h.rename(0, "x", 0, "x"));
        refuse("rename into itself", AnswersEdgesTest::noSlot, -18, h -> h.rename(0, "d", 47, "x"));
        refuse("rename into what is within", AnswersEdgesTest::noSlot, -18, h -> h.rename(0, "d", 50, "x"));
        refuse("rename onto the same NODE", AnswersEdgesTest::kinds, -13, h -> h.rename(0, "f", 2, "f"));
        refuse("rename a FILE onto a DIRECTORY", AnswersEdgesTest::kinds, -13, h -> h.rename(0, "f", 0, "d"));
        refuse("rename a DIRECTORY onto a POINTER", AnswersEdgesTest::kinds, -13, h -> h.rename(0, "d", 0, "p"));
        refuse("rename onto a full DIRECTORY", AnswersEdgesTest::noSlot, -17, h -> h.rename(0, "e", 0, "d"));
        refuse("rename without a SLOT", AnswersEdgesTest::noSlot, -16, h -> h.rename(47, "z", 0, "z"));
        refuse("rename without a BLOCK", AnswersEdgesTest::noBlock, -16, h -> h.rename(0, "r1", 4, "r1"));
        refuseFirst("rename: -10 of the other ahead of -11", AnswersEdgesTest::kinds, -10, h -> h.rename(0, 0, 1, 'x'));
        refuseFirst("rename: -10 ahead of -11 of the other", AnswersEdgesTest::kinds, -10, h -> h.rename(1, 'x', 0, 0));
        refuseFirst("rename: -10 ahead of -20", AnswersEdgesTest::others, -10, h -> h.rename(1, "f", 2, "x"));
        refuseFirst("rename: -11 ahead of -20", AnswersEdgesTest::others, -11, h -> h.rename(1, 0, 0, 'x'));
        refuseFirst("rename: -11 of the other ahead of -20", AnswersEdgesTest::others, -11, h -> h.rename(1, 'f', 0, 0));
        refuseFirst("rename: -20 ahead of -12", AnswersEdgesTest::others, -20, h -> h.rename(1, "x", 0, "y"));
        refuseFirst("rename: -20 of the other ahead of -12", AnswersEdgesTest::others, -20,
            h -> h.rename(0, "x", 1, "y"));
        refuseFirst("rename: -20 ahead of its own NAME", AnswersEdgesTest::others, -20, h -> h.rename(1, "f", 1, "f"));
        refuseFirst("rename: -12 ahead of -13", AnswersEdgesTest::kinds, -12, h -> h.rename(0, "x", 0, "f"));
        refuseFirst("rename: -18 ahead of -13", AnswersEdgesTest::noSlot, -18, h -> h.rename(0, "d", 47, "z"));
        refuseFirst("rename: -13 ahead of -17", AnswersEdgesTest::kinds, -13, h -> h.rename(0, "p", 0, "d"));
        refuseFirst("rename: -13 ahead of -16", AnswersEdgesTest::noSlot, -13, h -> h.rename(47, "z", 0, "d"));
        refuseFirst("rename: -17 ahead of -16", AnswersEdgesTest::noSlot, -17, h -> h.rename(47, "y", 0, "d"));
    }

    private static void lookRefusals() {
        for (int node : new int[] {1, 3, 4, 5, -1, 64}) {
            refuse("find in NODE " + node, AnswersEdgesTest::kinds, -10, h -> h.find(node, "f"));
            refuse("walk from NODE " + node, AnswersEdgesTest::kinds, -10, h -> h.walk(node));
            refuse("entry of NODE " + node, AnswersEdgesTest::kinds, -10, h -> h.entry(node, 0));
            refuse("name of NODE " + node, AnswersEdgesTest::kinds, -10, h -> h.name(node, 0));
            refuse("parent of NODE " + node, AnswersEdgesTest::kinds, -10, h -> h.parent(node));
        }
        for (int node : new int[] {5, -1, 64}) {
            refuse("size of NODE " + node, AnswersEdgesTest::kinds, -10, h -> h.size(node));
            refuse("mode of NODE " + node, AnswersEdgesTest::kinds, -10, h -> h.mode(node, 1));
            refuse("give NODE " + node, AnswersEdgesTest::kinds, -10, h -> h.give(node, 1));
            refuse("rights of NODE " + node, AnswersEdgesTest::kinds, -10, h -> h.rights(node, 1));
            refuseFirst("rights: -10 ahead of NONE", AnswersEdgesTest::kinds, -10, h -> h.rights(node, 2));
            refuseFirst("mode: -10 ahead of -15", AnswersEdgesTest::kinds, -10, h -> h.mode(node, 64));
            refuseFirst("give: -10 ahead of -15", AnswersEdgesTest::kinds, -10, h -> h.give(node, 16));
        }
        for (int node : NO_NODES) {
            refuse("kind of no NODE " + node, AnswersEdgesTest::kinds, -10, h -> h.kind(node));
        }
        for (int node : new int[] {0, 2, 4, 5, -1, 64}) {
            refuse("links of NODE " + node, AnswersEdgesTest::kinds, -14, h -> h.links(node));
        }
        refuse("find of no NAME", AnswersEdgesTest::kinds, -11, h -> h.find(0, 0));
        refuse("find without GO", AnswersEdgesTest::closed, -20, h -> h.find(1, "f"));
        refuse("find of nothing", AnswersEdgesTest::kinds, -12, h -> h.find(0, "x"));
        refuse("entry without READ", AnswersEdgesTest::closed, -20, h -> h.entry(1, 0));
        refuse("name without READ", AnswersEdgesTest::closed, -20, h -> h.name(1, 0));
        refuse("mode of another's", AnswersEdgesTest::others, -20, h -> h.mode(2, 1));
        refuse("give of another's", AnswersEdgesTest::others, -20, h -> h.give(2, 1));
        refuse("mode of a POINTER", AnswersEdgesTest::kinds, -15, h -> h.mode(4, 1));
        for (int bits : new int[] {-1, 64, Integer.MIN_VALUE, Integer.MAX_VALUE}) {
            refuse("mode " + bits, AnswersEdgesTest::kinds, -15, h -> h.mode(1, bits));
        }
        for (int user : new int[] {-1, 16, Integer.MIN_VALUE, Integer.MAX_VALUE}) {
            refuse("give to " + user, AnswersEdgesTest::kinds, -15, h -> h.give(1, user));
            refuse("as " + user, AnswersEdgesTest::kinds, -15, h -> h.as(user));
        }
        for (int x : new int[] {-1, 256, Integer.MIN_VALUE, Integer.MAX_VALUE}) {
            refuse("where " + x, AnswersEdgesTest::kinds, -15, h -> h.where(x));
            refuse("mark " + x, AnswersEdgesTest::kinds, -15, h -> h.mark(x));
        }
        refuse("mark 4", AnswersEdgesTest::kinds, -15, h -> h.mark(4));
        refuseFirst("find: -10 ahead of -11", AnswersEdgesTest::kinds, -10, h -> h.find(1, 0));
        refuseFirst("find: -11 ahead of -20", AnswersEdgesTest::closed, -11, h -> h.find(1, 0));
        refuseFirst("find: -20 ahead of -12", AnswersEdgesTest::closed, -20, h -> h.find(1, "x"));
        refuseFirst("entry: -10 ahead of -20", AnswersEdgesTest::closed, -10, h -> h.entry(2, 0));
        refuseFirst("entry: -20 ahead of NONE", AnswersEdgesTest::closed, -20, h -> h.entry(1, -1));
        refuseFirst("name: -10 ahead of -20", AnswersEdgesTest::closed, -10, h -> h.name(2, 0));
        refuseFirst("name: -20 ahead of NONE", AnswersEdgesTest::closed, -20, h -> h.name(1, 99));
        refuseFirst("mode: -15 ahead of -20", AnswersEdgesTest::others, -15, h -> h.mode(2, 64));
        refuseFirst("mode: -15 of a POINTER ahead of -20", AnswersEdgesTest::others, -15, h -> h.mode(4, 1));
        refuseFirst("give: -15 ahead of -20", AnswersEdgesTest::others, -15, h -> h.give(2, 16));
    }

    private static void walkRefusal(String what, int due, String path, boolean first) {
        ALL.add(new Refusal("walk" + what, h -> {
            pointers(h);
            h.tape(path);
        }, due, h -> h.walk(0), first));
    }

    private static void walkRefusals() {
        String eight = "here/here/here/here/here/here/here/here";
        walkRefusal(" behind a FILE", -12, "f/x", false);
        walkRefusal(" by no NAME", -11, "X", false);
        walkRefusal(" without GO", -20, "d/p", false);
        walkRefusal(" to nothing", -12, "x", false);
        walkRefusal(" by nine POINTERS", -19, eight + "/here", false);
        walkRefusal(": -12 behind a FILE ahead of -11", -12, "f/X", true);
        walkRefusal(": -11 ahead of -20", -11, "d/X", true);
        walkRefusal(": -20 ahead of -12", -20, "d/x", true);
        walkRefusal(": -20 ahead of -19", -20, eight + "/d/p", true);
        walkRefusal(": -12 ahead of a ninth", -12, eight + "/x/here", true);
        ALL.add(new Refusal("walk: -10 ahead of -11", h -> {
            kinds(h);
            h.tape("X");
        }, -10, h -> h.walk(1), true));
    }

    private static void gather() {
        makers("make", (h, dir, name) -> h.make(dir, name));
        makers("dir", (h, dir, name) -> h.dir(dir, name));
        makers("lay", (h, dir, name) -> h.lay(dir, name));
        makers("point", (h, dir, name) -> h.point(dir, name));
        tapeMakers("lay", (h, dir, name) -> h.lay(dir, name));
        tapeMakers("point", (h, dir, name) -> h.point(dir, name));
        refuse("point with 41 bytes", h -> {
            kinds(h);
            h.tape(41);
        }, -15, h -> h.point(0, 'x'));
        refuse("lay without a band", AnswersEdgesTest::kinds, -16, h -> h.lay(0, 'x'));
        linkRefusals();
        byteRefusals();
        dropRefusals();
        renameRefusals();
        lookRefusals();
        walkRefusals();
    }

    private static void answered(int due, boolean first) {
        for (Refusal r : ALL) {
            if (r.first == first && (first || r.due == due)) {
                House h = House.small();
                r.scene.on(h);
                due(r.what, r.call.of(h), r.due);
            }
        }
    }

    @Sentence(of = "IV", is = "OFF is -99.")
    static void off() {
        due("OFF", ShingleHouse.OFF, -99);
        due("answered", House.off().kind(0), -99);
        due("answered by name", House.off().name(0, 0), -99);
    }

    @Sentence(of = "IV", is = "Refusals, the first one that holds in the order told at each call:")
    static void order() {
        answered(0, true);
    }

    @Sentence(of = "IV", is = "-10 the NODE of a DIRECTORY that is asked is none (also one that is no number of a NODE);")
    static void noDirectory() {
        answered(-10, false);
    }

    @Sentence(of = "IV", is = "-11 a NAME is none;")
    static void noName() {
        answered(-11, false);
    }

    @Sentence(of = "IV", is = "-12 nothing has this NAME there;")
    static void notThere() {
        answered(-12, false);
    }

    @Sentence(of = "IV", is = "-13 something has this NAME there already;")
    static void thereAlready() {
        answered(-13, false);
    }

    @Sentence(of = "IV", is = "-14 it is no FILE (or LAID FILE, where told);")
    static void noFile() {
        answered(-14, false);
        House h = House.kinds();
        due("put where a LAID FILE is told", h.put(3, 0, "a"), 1);
        due("link where a LAID FILE is told", h.link(0, "m", 3), 2);
        due("links where a LAID FILE is told", h.links(3), 2);
        due("byteAt where a LAID FILE is told", h.byteAt(3, 0), 'a');
        due("cut where none is told", h.cut(3, 0), -14);
    }

    @Sentence(of = "IV", is = "-15 a place or size is not right;")
    static void notRight() {
        answered(-15, false);
    }

    @Sentence(of = "IV", is = "-16 no BLOCK, SLOT, NODE, or band is free;")
    static void nothingFree() {
        answered(-16, false);
        Asks[] last = {h -> h.make(0, 'x'), h -> h.dir(0, 'x'), h -> h.point(0, 'x'), h -> h.link(0, 'x', 3),
            h -> h.rename(0, House.n("r1"), 4, House.n("r1")), h -> h.put(3, 0)};
        for (Asks call : last) {
            House h = House.small().leaveFree(1);
            h.dir(0, "s");
            h.tape("abc");
            due("the last BLOCK is taken", call.of(h) > 0, true);
            due("none is free", h.count(8), 0);
            due("check", h.check(), 0);
        }
    }

    @Sentence(of = "IV", is = "-17 a DIRECTORY isn't empty;")
    static void notEmpty() {
        answered(-17, false);
        House h = House.small();
        h.dir(0, "d");
        h.make(1, "f");
        due("with one NAME", h.drop(0, "d"), -17);
        h.drop(1, "f");
        due("with none", h.drop(0, "d"), 1);
    }

    @Sentence(of = "IV", is = "-18 a DIRECTORY would be in itself;")
    static void inItself() {
        answered(-18, false);
        House h = House.small();
        h.dir(0, "d");
        h.make(1, "f");
        due("a FILE never", h.rename(1, "f", 1, "g"), 2);
        h.dir(0, "e");
        due("a DIRECTORY beside it", h.rename(0, "d", 3, "d"), 1);
        due("now within it", h.rename(0, "e", 1, "e"), -18);
    }

    @Sentence(of = "IV", is = "-19 too many POINTERS;")
    static void tooMany() {
        answered(-19, false);
    }

    @Sentence(of = "IV", is = "-20 WHO acts may not.")
    static void mayNot() {
        answered(-20, false);
    }

    @Sentence(of = "IV", is = "What is refused changes nothing (but by the COMMIT ahead of it).")
    static void changesNothing() {
        for (Refusal r : ALL) {
            same(r.what, h -> {
                r.scene.on(h);
                if (r.tape) {
                    h.end(0);
                }
            }, h -> {
                r.scene.on(h);
                r.call.of(h);
            });
        }
    }

    /** a (1) has b (2), which has c (3), a FILE; POINTERS: a/q (4) to b/c, b/up (5) to .., b/r (6) to /a/q, b/to (7) to ../b. */
    private static House paths() {
        House h = House.small();
        h.dir(0, "a");
        h.dir(1, "b");
        h.make(2, "c");
        h.point(1, "q", "b/c");
        h.point(2, "up", "..");
        h.point(2, "r", "/a/q");
        h.point(2, "to", "../b/");
        return h;
    }

    private static void walks(Object[][] rows) {
        House h = paths();
        for (Object[] row : rows) {
            due("from " + row[0] + " by '" + row[1] + "'", h.walk((Integer) row[0], (String) row[1]), (Integer) row[2]);
        }
    }

    @Sentence(of = "IV", is = "A PATH: bytes, parts of which have / between (47).")
    static void path() {
        walks(new Object[][] {{0, "a", 1}, {0, "a/b", 2}, {0, "a/b/c", 3}, {0, "a.b", -12}, {0, "a0b", -12},
            {0, "a\\b", -11}, {0, "a|b", -11}, {0, "", 0}, {2, "", 2}});
        House h = House.small();
        due("of 1280 bytes", h.walk(0, "./".repeat(640)), 0);
    }

    @Sentence(of = "IV", is = "One that begins with / begins at the root.")
    static void atTheRoot() {
        walks(new Object[][] {{2, "/", 0}, {2, "/a", 1}, {2, "//a", 1}, {2, "/c", -12}, {2, "c", 3}, {2, "a", -12},
            {2, "/..", 0}, {2, "./a", -12}});
    }

    @Sentence(of = "IV", is = "A part without bytes, and . alone, is where one is; .. alone the PARENT (the root's is the "
        + "root); another one is a NAME in the DIRECTORY where one is.")
    static void parts() {
        walks(new Object[][] {{1, ".", 1}, {1, "./", 1}, {1, "././.", 1}, {1, "b//", 2}, {1, "b///c", 3}, {2, "..", 1},
            {2, "../", 1}, {2, "../..", 0}, {0, "..", 0}, {2, "../../..", 0}, {2, "../../../a", 1}, {1, "...", -12},
            {1, "..b", -12}, {1, ".b", -12}, {1, "b.", -12}, {1, "a", -12}, {1, "b", 2}, {1, "b/..", 1}});
    }

    @Sentence(of = "IV", is = "TO WALK a PATH from a DIRECTORY: part by part; where a POINTER is come to (also by the last "
        + "part), its TEXT is WALKED from the DIRECTORY in which its NAME stands, and then the parts behind.")
    static void pointersWalked() {
        walks(new Object[][] {{0, "a/q", 3}, {1, "q", 3}, {2, "../q", 3}, {2, "up", 1}, {2, "up/b", 2},
            {2, "up/b/up/q", 3}, {2, "r", 3}, {0, "a/b/r", 3}, {2, "r/", -12}, {2, "to", 2}, {2, "to/c", 3},
            {2, "to/to/to/c", 3}, {2, "up/c", -12}, {2, "up/..", 0}, {2, "q", -12}});
    }

    @Sentence(of = "IV", is = "At each part, first what holds of: where one is is no DIRECTORY (-12); it is no . or .. and "
        + "no NAME (-11); it is a NAME and WHO may not GO there (-20); nothing has it (-12); it would be the ninth "
        + "POINTER of the WALK (-19).")
    static void atEachPart() {
        walks(new Object[][] {{2, "c/", -12}, {2, "c/.", -12}, {2, "c/..", -12}, {2, "c/c", -12}, {2, "c/C", -12},
            {2, "C", -11}, {2, "a,", -11}, {2, "x/C", -12}, {2, "C/x", -11}, {2, "123456789", -11},
            {2, "12345678", -12}, {2, "a b", -11}, {2, "\0", -11}, {2, "\u00e4", -11}});
        House h = House.small();
        pointers(h);
        String[] eights = {"here/here/here/here/here/here/here/here", "d", "f", "..", "", "here"};
        int[] answers = {0, 1, 4, 0, 0, -19};
        due("eight", h.walk(0, eights[0]), answers[0]);
        for (int i = 1; i < eights.length; i++) {
            due("eight, then " + eights[i], h.walk(0, eights[0] + "/" + eights[i]), answers[i]);
        }
        due("without GO", h.walk(0, "d/p"), -20);
        due("without GO, but . and ..", h.walk(0, "d/./.."), 0);
        due("without GO, no NAME", h.walk(0, "d/P"), -11);
        due("without GO from there", h.walk(1, "x"), -20);
        h.as(3);
        due("with GO", h.walk(0, "d/p"), 0);
        due("with GO, nothing", h.walk(0, "d/x"), -12);
        due("ninth and tenth", h.walk(0, eights[0] + "/d/p"), -19);
    }

    @Sentence(of = "IV", is = "THE TAPE has at most 1280 bytes; put, lay, point and walk use it up, whatever they answer "
        + "(also OFF).")
    static void tape() {
        House h = House.small();
        for (int i = 0; i < 64; i++) {
            due("feed " + i, h.feed(0, 0, 0, 0, 0), true);
        }
        due("no more", h.feed(0, 0, 0, 0, 0), false);
        due("1280 are there", h.end(1280), true);
        Asks[] users = {g -> g.put(1, 0), g -> g.put(0, 0), g -> g.put(1, -1), g -> g.lay(0, 'l'), g -> g.lay(64, 'l'),
            g -> g.lay(0, 'a'), g -> g.point(0, 'p'), g -> g.point(0, 0), g -> g.point(0, 'a'), g -> g.walk(0),
            g -> g.walk(-1)};
        Asks[] others = {g -> g.make(0, 'x'), g -> g.dir(0, 'x'), g -> g.link(0, 'x', 1), g -> g.cut(1, 0),
            g -> g.drop(0, 'a'), g -> g.rename(0, 'a', 0, 'x'), g -> g.find(0, 'a'), g -> g.mode(1, 1),
            g -> g.give(1, 1), g -> g.sync(), g -> g.clean(), g -> g.restore(), g -> g.scrub(), g -> g.check(),
            g -> g.as(1), g -> g.byteAt(1, 0)};
        for (Asks call : users) {
            for (int i = 0; i < 2; i++) {
                House g = i == 0 ? House.small() : House.off();
                g.make(0, "a");
                g.tape("xyz");
                call.of(g);
                due("used up", g.end(1), false);
            }
        }
        for (Asks call : others) {
            for (int i = 0; i < 2; i++) {
                House g = i == 0 ? House.small() : House.off();
                g.make(0, "a");
                g.tape("xyz");
                call.of(g);
                due("not used up", g.end(3), true);
            }
        }
    }

    @Sentence(of = "IV", is = "It is not forgotten at a CUT.")
    static void tapeStays() {
        House h = House.small();
        h.make(0, "a");
        h.sync();
        h.tape("xyz");
        h.mode(1, 1);
        h.power(0);
        due("CUT", h.sync(), OFF);
        h.restore();
        due("put", h.put(1, 0), 3);
        due("byte", h.byteAt(1, 2), 'z');
    }

    public static void main(String[] args) throws IllegalAccessException {
        gather();
        run(AnswersEdgesTest.class);
    }
}
