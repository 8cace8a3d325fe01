import java.lang.reflect.Field;
import java.lang.reflect.InvocationTargetException;
import java.lang.reflect.Method;

/**
 * check() answers 0 of whatever the calls have built; that it would find what is wrong is seen only by spoiling the
 * SECTORS behind their back.
 */
public final class CheckTest {
    static int wrong = 0;

    static Object store(ShingleHouse x) throws ReflectiveOperationException {
        Field f = ShingleHouse.class.getDeclaredField("store");
        f.setAccessible(true);
        return f.get(x);
    }

    /** A number of 16 bits, at a place of a SECTOR, becomes another one. */
    static void spoil(ShingleHouse x, int sector, int place, int value) throws ReflectiveOperationException {
        Object store = store(x);
        Method m = store.getClass().getDeclaredMethod("setHalf", int.class, int.class, int.class);
        m.setAccessible(true);
        m.invoke(store, sector, place, value);
    }

    /** NODE 1 is a FILE with BLOCKS 146 .. 149 (PIECE 0, INDEX, PIECE 12, PIECE 13), NODE 2 a DIRECTORY in the root. */
    static ShingleHouse house() {
        ShingleHouse x = new ShingleHouse(4, 8, 1, 64);
        x.make(0, 97);
        x.feed(1, 1, 1, 1, 1);
        x.put(1, 0);
        x.feed(1, 1, 1, 1, 1);
        x.put(1, 64 * 13 - 10);
        x.dir(0, 98);
        x.dir(2, 99);
        return x;
    }

    static void expectWrong(String what, int sector, int place, int value) throws ReflectiveOperationException {
        ShingleHouse x = house();
        if (x.check() != 0) {
            wrong++;
            System.out.println("wrong before it is spoilt: " + x.check());
        }
        spoil(x, sector, place, value);
        if (x.check() <= 0) {
            wrong++;
            System.out.println("not found: " + what);
        }
    }

    public static void main(String[] args) throws ReflectiveOperationException, InvocationTargetException {
        int node1 = 82;
        int slots = 145;
        expectWrong("a BLOCK that two have", node1, 5, 145);
        expectWrong("a BLOCK that is none", node1, 4, 7);
        expectWrong("a BLOCK that THE MAP tells as free", node1, 5, 200);
        expectWrong("a BLOCK that nothing uses", node1, 4, 0);
        expectWrong("LINKS unlike SLOTS", node1, 1, 52 | 2 << 8);
        expectWrong("another PARENT", 84, 18, 0);
        expectWrong("a SLOT of a free NODE", slots, 17, 9);
        expectWrong("a SLOT of no NODE", slots, 17, 99);
        expectWrong("a NODE that nothing has", 90, 0, 1);
        expectWrong("an INDEX that tells none", node1, 16, 150);
        expectWrong("a DOUBLE that tells none", node1, 17, 150);
        expectWrong("a BLOCK beyond the size", node1, 2, 64);
        expectWrong("THE MAP below the first BLOCK", 80, 0, 0);
        System.out.println(wrong == 0 ? "all is found" : wrong + " things are not as due");
        if (wrong != 0) {
            System.exit(1);
        }
    }
}
