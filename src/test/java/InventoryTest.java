import java.io.IOException;
import java.lang.reflect.Method;
import java.nio.file.Files;
import java.nio.file.Path;
import java.util.LinkedHashMap;
import java.util.Map;

/**
 * Every sentence of the document has a test that bears its words: what no test bears stands in the list here of what
 * names no boundary case.
 */
public final class InventoryTest {
    private static final Class<?>[] TESTS = {DiskEdgesTest.class, VolumeEdgesTest.class, FilesEdgesTest.class,
        AnswersEdgesTest.class, CloserEdgesTest.class, CallsEdgesTest.class};

    /** What only says what a word means, or what the next sentence is about. */
    private static final String[] PLAIN = {
        "A disk whose tracks lie over one another like shingles, with all that makes a safe file system of it: a media "
            + "cache, a cleaner of bands, records, a volume of sectors, a journal, a tree of files.",
        "The disk has:"};
    private static final String TESTED = "[IV]+|[0-9]+|What it is|Terms";

    private static int wrong = 0;

    private static void complain(String what) {
        wrong++;
        System.out.println(what);
    }

    /** The parts by their numerals, the promises by their numbers, each as one line; what is in code marks is left out. */
    private static Map<String, String> sections(String document) {
        Map<String, String> all = new LinkedHashMap<>();
        String name = "";
        for (String line : document.split("\n")) {
            if (line.startsWith("## Promise ")) {
                name = line.substring(11, line.indexOf(':'));
            } else if (line.startsWith("## ")) {
                name = line.substring(3);
            } else if (line.startsWith("==== ")) {
                name = line.substring(5, line.indexOf('.'));
            } else if (!line.startsWith("```")) {
                String text = line.replaceAll("`[^`]*`:?", "").trim();
                all.merge(name, text, (a, b) -> (a + " " + b).trim());
            }
        }
        return all;
    }

    private static void bear(Map<String, String> left, Map<String, String> whole, String section, String words) {
        if (!whole.getOrDefault(section, "").contains(words)) {
            complain("not in the document, " + section + ": " + words);
        } else {
            // What two tests bear is taken out once.
            left.put(section, left.get(section).replace(words, "|"));
        }
    }

    /** All words of a section that neither a test nor the list bears. */
    private static void complainOfRest(String section, String text) {
        String rest = text;
        for (String words : PLAIN) {
            rest = rest.replace(words, "|");
        }
        for (String words : rest.split("\\|")) {
            if (words.matches(".*[A-Za-z0-9].*")) {
                complain("no test, " + section + ": " + words.trim());
            }
        }
    }

    public static void main(String[] args) throws IOException {
        Path document = Path.of("../shared/DOC.md");
        if (!Files.exists(document)) {
            System.out.println("no document to look at");
            return;
        }
        Map<String, String> whole = sections(Files.readString(document));
        Map<String, String> left = new LinkedHashMap<>(whole);
        int sentences = 0;
        for (Class<?> tests : TESTS) {
            for (Method m : tests.getDeclaredMethods()) {
                Sentence s = m.getAnnotation(Sentence.class);
                if (s != null) {
                    sentences++;
                    bear(left, whole, s.of(), s.is());
                }
            }
        }
        for (Map.Entry<String, String> section : left.entrySet()) {
            if (section.getKey().matches(TESTED)) {
                complainOfRest(section.getKey(), section.getValue());
            }
        }
        System.out.println(sentences + " sentences have a test, " + wrong + " things are not as due");
        if (wrong != 0) {
            System.exit(1);
        }
    }
}
