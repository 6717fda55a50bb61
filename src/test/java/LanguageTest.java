import java.io.IOException;
import java.lang.reflect.Constructor;
import java.lang.reflect.Field;
import java.lang.reflect.Method;
import java.lang.reflect.Modifier;
import java.nio.file.Files;
import java.nio.file.Path;
import java.util.Arrays;
import java.util.HashSet;
import java.util.Set;
import java.util.TreeSet;
import java.util.regex.Matcher;
import java.util.regex.Pattern;

/** The rules of LANGUAGE.md that can be seen from the class and its source. */
public final class LanguageTest {
    private static final String[] FACE = {
        "int feed(int,int,int,int,int)", "int text(int)", "int fault(int)", "int named(int,int)", "int piece(int,int)",
        "int heir(int,int)", "int joins(int,int)", "long law(int,int,int)", "boolean give(int,int)",
        "boolean trade(int,int)", "int lay(int)", "int go(int)", "int ahead(int,int,int)", "int lays(int)",
        "long rows(int)", "int firstRow(int,int)", "int dearest(int,int)", "long closed(int)", "int fewest(int)",
        "int shape(int,int)", "int swaps(int)", "int lacks(int)", "int tooMany(int)", "int deal()",
        "int game(int,int,int)", "int likely(int,int,int)", "int note(int,int,int,boolean)",
        "int see(int,int,int,boolean)", "int strike(int)", "boolean known(int)", "int missing(int)", "int ask(int)",
        "int needs()", "int chance(int,int,int,int)", "int tried(int,int,int)", "int undo()", "int keep()",
        "int back()", "int count(int)"};

    public static void main(String[] args) throws IOException {
        face();
        classes();
        String root = System.getProperty("project.root", ".");
        source(Files.readString(Path.of(root, "src/main/java/BoneEstate.java")));
        Check.end();
    }

    private static String signature(Method m) {
        StringBuilder s = new StringBuilder(m.getReturnType() + " " + m.getName() + "(");
        for (int i = 0; i < m.getParameterCount(); i++) {
            s.append(i > 0 ? "," : "").append(m.getParameterTypes()[i]);
        }
        return s.append(")").toString();
    }

    private static void face() {
        Check.promise = "rule 1";
        Class<?> c = BoneEstate.class;
        Check.due("final", Modifier.isFinal(c.getModifiers()) && Modifier.isPublic(c.getModifiers()), true);
        Set<String> found = new TreeSet<>();
        Set<String> names = new HashSet<>();
        for (Method m : c.getDeclaredMethods()) {
            if (Modifier.isPublic(m.getModifiers())) {
                found.add(signature(m));
                names.add(m.getName());
            }
        }
        Check.due("the face: " + found, found.equals(new TreeSet<>(Arrays.asList(FACE))), true);
        for (Method m : c.getDeclaredMethods()) {
            boolean open = Modifier.isPublic(m.getModifiers());
            Check.due(m.getName() + " is public or private", open || Modifier.isPrivate(m.getModifiers()), true);
            Check.due(m.getName() + " bears a public name", !open && names.contains(m.getName()), false);
        }
        for (Field f : c.getDeclaredFields()) {
            boolean none = f.getName().equals("NONE");
            Check.due(f.getName() + " is private", Modifier.isPrivate(f.getModifiers()), !none);
            Check.due(f.getName() + " is final, if it is static",
                    !Modifier.isStatic(f.getModifiers()) || Modifier.isFinal(f.getModifiers()), true);
        }
        Constructor<?>[] made = c.getDeclaredConstructors();
        Check.due("constructors", made.length, 1);
        for (Class<?> inner : c.getDeclaredClasses()) {
            for (Method m : inner.getDeclaredMethods()) {
                Check.due(inner.getSimpleName() + "." + m.getName() + " bears a public name",
                        names.contains(m.getName()), false);
            }
        }
    }

    private static void classes() {
        Check.promise = "rules 1, 5, 11";
        Class<?>[] inner = BoneEstate.class.getDeclaredClasses();
        Check.due("twelve classes at most", inner.length + 1 <= 12, true);
        for (Class<?> c : inner) {
            Check.due(c.getSimpleName() + " is static", Modifier.isStatic(c.getModifiers()), true);
            int fields = 0;
            for (Field f : c.getDeclaredFields()) {
                boolean constant = Modifier.isStatic(f.getModifiers());
                fields += constant ? 0 : 1;
                Check.due(c.getSimpleName() + "." + f.getName() + " is final, if it is static",
                        !constant || Modifier.isFinal(f.getModifiers()), true);
            }
            Check.due(c.getSimpleName() + " has few fields: " + fields, fields <= 20, true);
            for (Method m : c.getDeclaredMethods()) {
                Check.due(c.getSimpleName() + "." + m.getName() + " has seven parameters at most",
                        m.getParameterCount() <= 7, true);
            }
        }
    }

    private static void source(String text) {
        Check.promise = "the source";
        Matcher imports = Pattern.compile("(?m)^import (.*);$").matcher(text);
        Set<String> allowed = new HashSet<>(Arrays.asList("java.util.Arrays", "java.util.NoSuchElementException"));
        while (imports.find()) {
            Check.due("import " + imports.group(1), allowed.contains(imports.group(1)), true);
        }
        String[] forbidden = {"\\btry\\b", "\\bcatch\\b", "\\bfinally\\b", "->", "::", "\\bsynchronized\\b",
            "\\bassert\\b", "Exact\\(", "\\bpackage\\b", "System\\.(?!arraycopy)", "\\bdouble\\b", "\\bfloat\\b", "\\bnull\\b",
            "static \\{", "instanceof", "\"\\s*\\+", "\\+\\s*\"", "\\bpublic static (?!final int NONE)"};
        String code = text.replaceAll("(?s)/\\*.*?\\*/", "").replaceAll("//.*", "");
        for (String word : forbidden) {
            Check.due("'" + word + "' in the source", Pattern.compile(word).matcher(code).find(), false);
        }
        int start = 0;
        String[] lines = text.split("\n");
        for (int i = 0; i < lines.length; i++) {
            if (lines[i].matches("(    |        )[a-zA-Z].*\\) (throws .*)?\\{")) {
                start = i;
            }
            if (lines[i].matches("(    |        )\\}") && start > 0) {
                Check.due("lines of the method at " + (start + 1), i - start <= 60, true);
                start = 0;
            }
        }
        Check.due("characters 1 to 127 alone", text.chars().allMatch(ch -> ch > 0 && ch < 128), true);
    }
}
