import java.io.IOException;
import java.lang.reflect.Constructor;
import java.lang.reflect.Field;
import java.lang.reflect.Method;
import java.lang.reflect.Modifier;
import java.nio.file.Files;
import java.nio.file.Path;
import java.util.ArrayList;
import java.util.Arrays;
import java.util.HashSet;
import java.util.List;
import java.util.Set;
import java.util.TreeSet;
import java.util.regex.Matcher;
import java.util.regex.Pattern;

/** The public face, and those rules of the language that can be seen without running the program. */
public final class FaceTest {
    private static final String FACE = "int feed(int,int,int,int,int)|int text(int)|int fault(int)|int named(int,int)|"
            + "int look(int,int)|int land(int)|int part(int,int,int)|int lawful(int,int,int)|long law(int,int,int,int)|"
            + "int deed(int,int)|int clash()|boolean move(int,int)|boolean free(int,int)|int go(int)|"
            + "int fewest(int,int,int)|int way(int,int,int,int)|int joint(int,int,int,int,int)|int stands(int)|"
            + "int match(int)|int loopholes(int,int)|int loophole(int,int,int)|int shut(int,int)|int rests(int,int)|"
            + "int rest(int,int,int)|int freed(int)|int print(int,int,int)|int strike(int)|boolean known(int)|int whose()|"
            + "int chance(int,int,int)|int tried(int,int)|int undo()|int keep()|int back()|int count(int)";

    public static void main(String[] args) throws IOException {
        face();
        inside();
        source();
        Check.end();
    }

    private static void face() {
        Class<?> c = HalfCitizen.class;
        Check.due("public and final", Modifier.isPublic(c.getModifiers()) && Modifier.isFinal(c.getModifiers()), true);
        Set<String> found = new TreeSet<>();
        for (Method m : c.getDeclaredMethods()) {
            if (!Modifier.isPrivate(m.getModifiers())) {
                List<String> types = new ArrayList<>();
                for (Class<?> p : m.getParameterTypes()) {
                    types.add(p.getName());
                }
                found.add(m.getReturnType().getName() + " " + m.getName() + "(" + String.join(",", types) + ")");
            }
        }
        Set<String> due = new TreeSet<>(Arrays.asList(FACE.split("\\|")));
        for (String method : due) {
            Check.due("there is " + method, found.contains(method), true);
        }
        Check.due("methods", found.size(), due.size());
        for (Field f : c.getDeclaredFields()) {
            Check.due("field " + f.getName(), Modifier.isPrivate(f.getModifiers()), !f.getName().equals("NONE"));
        }
        Check.due("constructors", c.getDeclaredConstructors().length, 1);
        for (Constructor<?> k : c.getDeclaredConstructors()) {
            Check.due("constructor", Modifier.isPublic(k.getModifiers()) && k.getParameterCount() == 0, true);
        }
        Check.due("NONE", HalfCitizen.NONE, -1);
    }

    private static void inside() {
        Set<String> face = new HashSet<>();
        for (Method m : HalfCitizen.class.getDeclaredMethods()) {
            if (Modifier.isPublic(m.getModifiers())) {
                face.add(m.getName());
            }
        }
        for (Method m : HalfCitizen.class.getDeclaredMethods()) {
            Check.due("private " + m.getName(), Modifier.isPublic(m.getModifiers()) || !face.contains(m.getName()), true);
        }
        Class<?>[] classes = HalfCitizen.class.getDeclaredClasses();
        Check.due("at most twelve classes", classes.length <= 11, true);
        for (Class<?> c : classes) {
            Check.due("static " + c, Modifier.isStatic(c.getModifiers()) && !Modifier.isPublic(c.getModifiers()), true);
            int fields = 0;
            for (Field f : c.getDeclaredFields()) {
                boolean isStatic = Modifier.isStatic(f.getModifiers());
                fields += isStatic ? 0 : 1;
                Check.due("static and not final: " + f, isStatic && !Modifier.isFinal(f.getModifiers()), false);
            }
            Check.due("at most twenty fields in " + c, fields <= 20, true);
            for (Method m : c.getDeclaredMethods()) {
                Check.due("at most seven parameters: " + m, m.getParameterCount() <= 7, true);
                Check.due("a name of the face: " + m, face.contains(m.getName()), false);
            }
        }
    }

    private static void source() throws IOException {
        String source = Files.readString(Path.of("src/main/java/HalfCitizen.java"));
        String code = source.replaceAll("(?s)/\\*.*?\\*/", "").replaceAll("//[^\n]*", "");
        String plain = code.replaceAll("\"[^\"\n]*\"", "\"\"");
        String[] barred = {"try", "catch", "finally", "synchronized", "assert", "package", "System\\.(?!arraycopy)", "->",
            "::", "double", "float", "Exact", "Object", "Thread", "Random", "getMessage"};
        for (String word : barred) {
            String pattern = word.matches("[A-Za-z]+") ? "\\b" + word + "\\b" : word;
            Check.due("the source has " + word, Pattern.compile(pattern).matcher(plain).find(), false);
        }
        Matcher imports = Pattern.compile("import ([^;]*);").matcher(plain);
        while (imports.find()) {
            boolean fine = imports.group(1).matches("java\\.util\\.(Arrays|NoSuchElementException)");
            Check.due("import " + imports.group(1), fine, true);
        }
        Check.due("texts joined by +", plain.contains("\"\" +") || plain.contains("+ \"\""), false);
        int made = plain.split("\\bnew ").length;
        Matcher inMethods = Pattern.compile("(?m)^ {12,}.*\\bnew (?!IndexOutOf|NoSuchEl|Tokens|Sentences)").matcher(plain);
        Check.due("something is made outside of fields and constructors", inMethods.find(), false);
        Check.due("something is made", made > 1, true);
    }
}
