import java.net.URL;
import java.net.URLClassLoader;
import java.nio.file.Files;
import java.nio.file.Path;
import java.util.ArrayList;
import java.util.List;
import java.util.regex.Matcher;
import java.util.regex.Pattern;
import javax.tools.JavaCompiler;
import javax.tools.ToolProvider;

/**
 * The examples of README.md answer what stands behind them: "house.call(..);  // answer: why". They are made into one
 * class and run from the first to the last, those that begin with "static" being its methods.
 */
public final class ReadmeTest {
    static final Pattern ANSWERED = Pattern.compile("(house\\..*\\));\\s*// (-?\\d+|true|false)(:.*)?");
    static final int LEAST_ANSWERS = 30;

    static List<String> examples(String readme) {
        List<String> found = new ArrayList<>();
        Matcher m = Pattern.compile("(?s)```java\\n(.*?)```").matcher(readme);
        while (m.find()) {
            found.add(m.group(1));
        }
        return found;
    }

    static String quoted(String text) {
        return "\"" + text.replace("\\", "\\\\").replace("\"", "\\\"") + "\"";
    }

    static String asked(String call, String answer) {
        return "due(" + quoted(call) + ", " + call + ", " + quoted(answer) + ");";
    }

    static String program(List<String> examples) {
        StringBuilder methods = new StringBuilder();
        StringBuilder body = new StringBuilder();
        for (String example : examples) {
            if (example.startsWith("static")) {
                methods.append(example);
                continue;
            }
            for (String line : example.split("\\n")) {
                Matcher m = ANSWERED.matcher(line);
                body.append(m.matches() ? asked(m.group(1), m.group(2)) : line).append('\n');
            }
        }
        return "public final class ReadmeRun {\n"
            + "public static int asked = 0, wrong = 0;\n"
            + "static void due(String call, Object got, String want) {\n"
            + "asked++;\n"
            + "if (!String.valueOf(got).equals(want)) {\n"
            + "wrong++;\n"
            + "System.out.println(call + \" answered \" + got + \", README.md says \" + want);\n"
            + "}\n}\n"
            + methods
            + "public static void run() {\n" + body + "}\n}\n";
    }

    public static void main(String[] args) throws Exception {
        Path work = Files.createTempDirectory("readme");
        Path source = work.resolve("ReadmeRun.java");
        Files.writeString(source, program(examples(Files.readString(Path.of("README.md")))));
        JavaCompiler compiler = ToolProvider.getSystemJavaCompiler();
        String classes = System.getProperty("java.class.path");
        int refused = compiler.run(null, null, null, "-cp", classes, "-d", work.toString(), source.toString());
        int asked = 0;
        int wrong = refused;
        if (refused == 0) {
            try (URLClassLoader loader = new URLClassLoader(new URL[] {work.toUri().toURL()})) {
                Class<?> run = loader.loadClass("ReadmeRun");
                run.getMethod("run").invoke(null);
                asked = run.getField("asked").getInt(null);
                wrong += run.getField("wrong").getInt(null);
            }
        }
        for (String name : new String[] {"ReadmeRun.class", "ReadmeRun.java", "."}) {
            Files.deleteIfExists(work.resolve(name).normalize());
        }
        if (asked < LEAST_ANSWERS) {
            wrong++;
            System.out.println("only " + asked + " answers stand in README.md");
        }
        System.out.println(asked + " answers of README.md, " + wrong + " not as due");
        if (wrong != 0) {
            System.exit(1);
        }
    }
}
