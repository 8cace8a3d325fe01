import java.lang.reflect.Constructor;
import java.lang.reflect.Field;
import java.lang.reflect.Method;
import java.lang.reflect.Modifier;
import java.nio.file.Files;
import java.nio.file.Path;
import java.util.TreeSet;

/** The public face is the document's, and the program keeps to what can be seen of the rules of LANGUAGE.md. */
public final class FaceTest {
    static final String[] METHODS = {
        "boolean feed(int int int int int)", "boolean end(int)", "int as(int)", "int make(int long)",
        "int dir(int long)", "int lay(int long)", "int point(int long)", "int link(int long int)", "int put(int int)",
        "int cut(int int)", "int drop(int long)", "int rename(int long int long)", "int find(int long)",
        "int walk(int)", "int entry(int int)", "long name(int int)", "int kind(int)", "int size(int)",
        "int mode(int int)", "int give(int int)", "int rights(int int)", "int links(int)", "int parent(int)",
        "int block(int int)", "int byteAt(int int)", "int check()", "int scrub()", "int sync()", "int clean()",
        "boolean power(int)", "int restore()", "int where(int)", "int mark(int)", "int count(int)"};
    static final String[] FORBIDDEN = {"throw", "throws", "try", "catch", "finally", "synchronized", "assert",
        "protected", "volatile", "transient", "native", "var", "goto", "strictfp", "yield", "->", "::", "@"};

    static int wrong = 0;

    static void expect(String what, boolean right) {
        if (!right) {
            wrong++;
            System.out.println("not so: " + what);
        }
    }

    static String signature(Method m) {
        StringBuilder s = new StringBuilder(m.getReturnType().getSimpleName() + " " + m.getName() + "(");
        for (int i = 0; i < m.getParameterCount(); i++) {
            s.append(i == 0 ? "" : " ").append(m.getParameterTypes()[i].getSimpleName());
        }
        return s.append(")").toString();
    }

    static void checkFace() {
        Class<?> c = ShingleHouse.class;
        expect("public and final", Modifier.isPublic(c.getModifiers()) && Modifier.isFinal(c.getModifiers()));
        TreeSet<String> due = new TreeSet<>(java.util.Arrays.asList(METHODS));
        TreeSet<String> publicNames = new TreeSet<>();
        TreeSet<String> found = new TreeSet<>();
        for (Method m : c.getDeclaredMethods()) {
            if (Modifier.isPublic(m.getModifiers())) {
                found.add(signature(m));
                publicNames.add(m.getName());
            }
        }
        expect("the methods are " + due + ", not " + found, due.equals(found));
        for (Method m : c.getDeclaredMethods()) {
            boolean isPublic = Modifier.isPublic(m.getModifiers());
            expect(m + " is public or private", isPublic || Modifier.isPrivate(m.getModifiers()));
            expect(m + " bears no public name", isPublic || !publicNames.contains(m.getName()));
        }
        for (Field f : c.getDeclaredFields()) {
            boolean constant = f.getName().equals("NONE") || f.getName().equals("OFF");
            expect(f + " is private", constant || Modifier.isPrivate(f.getModifiers()));
        }
        Constructor<?>[] made = c.getDeclaredConstructors();
        expect("one constructor", made.length == 1 && Modifier.isPublic(made[0].getModifiers())
            && made[0].getParameterCount() == 4);
        expect("NONE", ShingleHouse.NONE == -1);
        expect("OFF", ShingleHouse.OFF == -99);
        Class<?>[] inside = c.getDeclaredClasses();
        expect("at most twelve classes", inside.length <= 11);
        for (Class<?> k : inside) {
            checkInside(k, publicNames);
        }
    }

    static void checkInside(Class<?> k, TreeSet<String> publicNames) {
        expect(k + " is static", Modifier.isStatic(k.getModifiers()));
        expect(k + " is not public", !Modifier.isPublic(k.getModifiers()));
        int fields = 0;
        for (Field f : k.getDeclaredFields()) {
            fields += Modifier.isStatic(f.getModifiers()) ? 0 : 1;
            expect(f + " is no static state", !Modifier.isStatic(f.getModifiers())
                || Modifier.isFinal(f.getModifiers()));
        }
        expect(k + " has at most twenty fields", fields <= 20);
        for (Method m : k.getDeclaredMethods()) {
            expect(m + " takes at most seven", m.getParameterCount() <= 7);
            expect(m + " bears no public name", !publicNames.contains(m.getName()));
        }
    }

    static void checkText() throws Exception {
        String text = Files.readString(Path.of("src/main/java/ShingleHouse.java"));
        String code = text.replaceAll("(?s)/\\*.*?\\*/", " ").replaceAll("//[^\\n]*", " ");
        for (String word : FORBIDDEN) {
            String pattern = Character.isLetter(word.charAt(0)) ? "\\b" + word + "\\b" : word;
            expect("no " + word, !java.util.regex.Pattern.compile(pattern).matcher(code).find());
        }
        java.util.regex.Matcher imports = java.util.regex.Pattern.compile("import ([^;]*);").matcher(code);
        while (imports.find()) {
            expect("import " + imports.group(1), imports.group(1).equals("java.util.Arrays"));
        }
        expect("characters 0 to 127", text.chars().allMatch(ch -> ch < 128));
    }

    public static void main(String[] args) throws Exception {
        checkFace();
        checkText();
        System.out.println(wrong == 0 ? "the face is as due" : wrong + " things are not as due");
        if (wrong != 0) {
            System.exit(1);
        }
    }
}
