import java.lang.reflect.InvocationTargetException;
import java.lang.reflect.Method;
import java.util.ArrayList;
import java.util.List;

/** What the tests of single sentences share: it runs them, compares answers, and tells of which sentence one was. */
abstract class Edges {
    static final int NONE = -1;
    static final int OFF = -99;

    /** So many wrong answers of a sentence are told; the others are counted alone. */
    private static final int TOLD = 5;

    private static String current = "";
    private static int left = 0;
    private static int sentences = 0;
    private static int answers = 0;
    private static int wrong = 0;

    /** Brings an object from its beginning to some state, or asks it something. */
    interface Acts {
        void on(House h);
    }

    interface Asks {
        long of(House h);
    }

    static void due(String what, long got, long want) {
        answers++;
        if (got != want) {
            complain(what + " answered " + got + ", due is " + want);
        }
    }

    private static void complain(String what) {
        wrong++;
        left--;
        if (left >= 0) {
            System.out.println(current + "\n    " + what);
        }
    }

    static void due(String what, boolean got, boolean want) {
        due(what, got ? 1 : 0, want ? 1 : 0);
    }

    /** Runs every method of a class that bears a sentence, and ends the program. */
    static void run(Class<?> tests) throws IllegalAccessException {
        for (Method m : tests.getDeclaredMethods()) {
            Sentence s = m.getAnnotation(Sentence.class);
            if (s != null) {
                runOne(m, s);
            }
        }
        System.out.println(sentences + " sentences, " + answers + " answers, " + wrong + " not as due");
        if (wrong != 0 || sentences == 0) {
            System.exit(1);
        }
    }

    private static void runOne(Method m, Sentence s) throws IllegalAccessException {
        current = (s.of().matches("[0-9]+") ? "promise " : "part ") + s.of() + ": " + s.is();
        sentences++;
        left = TOLD;
        int before = answers;
        try {
            m.invoke(null);
        } catch (InvocationTargetException e) {
            complain(m.getName() + " threw " + e.getCause());
        }
        if (answers == before) {
            complain(m.getName() + " asked nothing");
        }
    }

    /** All that can be asked of an object of the smallest disk without changing it. */
    private static List<Asks> questions() {
        List<Asks> all = new ArrayList<>();
        for (int i = 0; i <= 15; i++) {
            int what = i;
            all.add(h -> h.count(what));
        }
        for (int i = 0; i < 256; i++) {
            int x = i;
            all.add(h -> h.where(x));
        }
        for (int i = 0; i < 4; i++) {
            int band = i;
            all.add(h -> h.mark(band));
        }
        for (int i = 0; i < 64; i++) {
            int node = i;
            all.add(h -> h.kind(node));
            all.add(h -> h.size(node));
            all.add(h -> h.links(node));
            all.add(h -> h.parent(node));
            all.add(h -> h.rights(node, 0));
            all.add(h -> h.rights(node, 1));
        }
        for (int i = 0; i < 8; i++) {
            int node = i;
            for (int j = -4; j < 60; j++) {
                int k = j;
                all.add(h -> h.block(node, k));
                all.add(h -> h.entry(node, k));
                all.add(h -> h.name(node, k));
                all.add(h -> h.byteAt(node, k));
            }
        }
        all.add(h -> h.end(1) ? 1 : 0);
        return all;
    }

    /** Two objects that are made by different calls can't be told apart, whatever they are asked. */
    static void same(String what, Acts one, Acts other) {
        List<Asks> all = questions();
        House a = null;
        House b = null;
        int different = 0;
        for (int i = 0; i < all.size(); i++) {
            if (i % 200 == 0) {
                // An object may be used for 512 calls: new ones are made for each two hundred questions.
                a = House.small();
                b = House.small();
                one.on(a);
                other.on(b);
            }
            long first = all.get(i).of(a);
            long second = all.get(i).of(b);
            if (first != second) {
                different++;
            }
        }
        due(what + ": answers that differ", different, 0);
    }
}
