import java.lang.reflect.Field;
import java.lang.reflect.Method;

/**
 * check() answers 0 of whatever the calls have built; that it would find what is wrong is seen only by spoiling the
 * SECTORS behind their back. Each row makes one thing wrong, and all else right with it.
 */
public final class CheckTest {
    /** SECTORS of the smallest disk: THE MAP, the NODES of the root, of the FILE, of a DIRECTORY in another, of none. */
    private static final int MAP = 80;
    private static final int ROOT = 81;
    private static final int FILE = 82;
    private static final int INNER = 84;
    private static final int FREE = 90;
    /** BLOCKS: the root's SLOTS, the FILE's PIECE 0, its INDEX, and two that are free. */
    private static final int SLOTS = 145;
    private static final int PIECE = 146;
    private static final int INDEX = 147;
    private static final int SPARE = 151;
    private static final int OTHER = 152;
    private static final int THIRD = 153;
    /** Places of sixteen bits in NODES: kind and OWNER, MODE and LINKS, size, PIECE 0, INDEX, DOUBLE, PARENT. */
    private static final int KIND = 0;
    private static final int LINKS = 1;
    private static final int SIZE = 2;
    private static final int PIECES = 4;
    private static final int TO_INDEX = 16;
    private static final int TO_DOUBLE = 17;
    private static final int PARENT = 18;
    /** In a BLOCK of SLOTS: the third NAME's first bytes, its NODE. In THE MAP: SECTORS 144 .. 159, of which 151 on are free. */
    private static final int NAME = 8;
    private static final int NODE = 18;
    private static final int BITS = 9;
    private static final int USED = 0x7F;

    private static int wrong = 0;

    /** A number of 16 bits, at a place of a SECTOR, becomes another one. */
    private static void spoil(ShingleHouse x, int sector, int place, int value) throws ReflectiveOperationException {
        Field f = ShingleHouse.class.getDeclaredField("store");
        f.setAccessible(true);
        Object store = f.get(x);
        Method m = store.getClass().getDeclaredMethod("setHalf", int.class, int.class, int.class);
        m.setAccessible(true);
        m.invoke(store, sector, place, value);
    }

    /**
     * NODE 1 is a FILE of 842 bytes with BLOCKS 146 .. 149 (PIECE 0, INDEX, PIECE 12, PIECE 13), NODE 2 a DIRECTORY in the
     * root, NODE 3 one in NODE 2, whose SLOTS are BLOCK 150.
     */
    private static ShingleHouse house() {
        ShingleHouse x = new ShingleHouse(4, 8, 1, 64);
        x.make(0, 97);
        x.feed(1, 1, 1, 1, 1);
        x.put(1, 0);
        x.feed(1, 1, 1, 1, 1);
        x.put(1, 64 * 13 - 10);
        x.dir(0, 98);
        x.dir(2, 99);
        return x;
    }

    /** The numbers are those of so many spoils, three for each: SECTOR, place, value. */
    private static void found(String what, int due, int... spoils) throws ReflectiveOperationException {
        ShingleHouse x = house();
        for (int i = 0; i + 2 < spoils.length; i += 3) {
            spoil(x, spoils[i], spoils[i + 1], spoils[i + 2]);
        }
        int got = x.check();
        if (got != due || x.check() != due) {
            wrong++;
            System.out.println("promise 27: " + what + ": check answered " + got + ", due is " + due);
        }
    }

    private static void blocks() throws ReflectiveOperationException {
        found("a BLOCK that two have", 1, FILE, PIECES + 1, PIECE);
        found("a BLOCK that two have, one of them as SLOTS", 1, FILE, PIECES + 1, SLOTS);
        found("no BLOCK: it is below the first one", 1, FILE, PIECES + 1, 144);
        found("no BLOCK: it is beyond the last one", 1, FILE, PIECES + 1, 256);
        found("THE MAP: a free BLOCK is set", 1, MAP, BITS, USED | 0x80);
        found("THE MAP: a used BLOCK is not set", 1, MAP, BITS, USED & ~0x40);
        found("THE MAP: one below the first BLOCK is not set", 1, MAP, 0, 0xFFFE);
        found("THE MAP: all is well", 0, MAP, BITS, USED);
    }

    private static void names() throws ReflectiveOperationException {
        found("LINKS: more than SLOTS", 1, FILE, LINKS, 52 | 2 << 8);
        found("LINKS: fewer than SLOTS", 1, FILE, LINKS, 52);
        found("LINKS: one SLOT more", 1, SLOTS, NAME, 'z', SLOTS, NODE, 1);
        found("LINKS: all is well", 0, SLOTS, NAME, 'z', SLOTS, NODE, 1, FILE, LINKS, 52 | 2 << 8);
        found("a PARENT that is another one", 1, INNER, PARENT, 0);
        found("the root's PARENT", 1, ROOT, PARENT, 2);
        found("the root in a SLOT", 1, SLOTS, NAME, 'z', SLOTS, NODE, 0);
        found("a DIRECTORY in two SLOTS", 1, SLOTS, NAME, 'z', SLOTS, NODE, 2);
        found("a FILE that nothing has", 1, FREE, KIND, 1);
        found("a DIRECTORY that nothing has", 1, FREE, KIND, 2);
        found("a POINTER that nothing has", 1, FREE, KIND, 4);
        found("a SLOT with a free NODE", 1, SLOTS, NAME, 'z', SLOTS, NODE, 9);
        found("a SLOT with the first number that is no NODE", 1, SLOTS, NAME, 'z', SLOTS, NODE, 64);
        found("a POINTER in two SLOTS", 1, FREE, KIND, 4, SLOTS, NAME, 'z', SLOTS, NODE, 9, SLOTS, NAME + 4, 'y', SLOTS,
            NODE + 1, 9);
        found("a POINTER: all is well", 0, FREE, KIND, 4, SLOTS, NAME, 'z', SLOTS, NODE, 9);
    }

    private static void pieces() throws ReflectiveOperationException {
        found("an INDEX that tells none", 1, INDEX, 0, 0, INDEX, 1, 0, MAP, BITS, USED & ~0x30);
        found("a DOUBLE that tells none", 1, FILE, TO_DOUBLE, SPARE, MAP, BITS, USED | 0x80);
        found("an INDEX of a DOUBLE that tells none", 1, FILE, TO_DOUBLE, SPARE, SPARE, 0, OTHER, MAP, BITS, USED | 0x180);
        found("beyond the size: PIECE 13", 1, FILE, SIZE, 64 * 13);
        found("beyond the size: not PIECE 13", 0, FILE, SIZE, 64 * 13 + 1);
        found("beyond the size: PIECES 12 and 13", 2, FILE, SIZE, 64 * 12);
        found("beyond the size: PIECES 0, 12 and 13", 3, FILE, SIZE, 0);
        int[] far = {FILE, TO_DOUBLE, SPARE, SPARE, 1, OTHER, OTHER, 0, THIRD, MAP, BITS, USED | 0x380};
        int[] sizes = {64 * 76, 64 * 76 + 1};
        for (int i = 0; i < 2; i++) {
            int[] all = java.util.Arrays.copyOf(far, far.length + 3);
            all[far.length] = FILE;
            all[far.length + 1] = SIZE;
            all[far.length + 2] = sizes[i];
            found("beyond the size: PIECE 76 with " + sizes[i], 1 - i, all);
        }
        found("no INDEX, and three BLOCKS that nothing uses", 3, FILE, TO_INDEX, 0);
    }

    public static void main(String[] args) throws ReflectiveOperationException {
        found("nothing", 0);
        blocks();
        names();
        pieces();
        System.out.println(wrong == 0 ? "all is found" : wrong + " things are not as due");
        if (wrong != 0) {
            System.exit(1);
        }
    }
}
