import java.io.IOException;
import java.lang.reflect.Constructor;
import java.lang.reflect.Field;
import java.lang.reflect.Method;
import java.lang.reflect.Modifier;
import java.nio.file.Files;
import java.nio.file.Path;
import java.util.Arrays;
import java.util.Set;
import java.util.TreeSet;
import java.util.regex.Matcher;
import java.util.regex.Pattern;

/** The public face as the document has it, and the rules of LANGUAGE.md that can be looked at by a machine. */
public final class FaceTest {
    private static final String[] FACE = {
        "int type(int)", "int wipe()", "int undo()", "int fault()", "int couple(int,int)",
        "int event(int,int,int,int)", "int back()", "int read(int)", "int at(int,int,int)",
        "int place(int,int,int)", "int are(int,int,int)", "int pairs(int,int)", "int closed(int)",
        "int holes()", "int ringed(int)", "int meets(int)", "int open(int,int,int)",
        "int stand(int,int,int)", "int swap(int)", "int drop(int)", "int seen(int,int,int,int)",
        "int forget()", "int never()", "int was(int,int)", "int ask(int)", "long gossip(int,int,int)",
        "int ages(int,int,int)", "int sheet(int,int,int)", "int lose(int)", "int put(int,int,int,int)",
        "int get(int,int,int)", "int copy(int,int,int,int,int)", "int write(int,int)", "int count(int)",
        "long digest()"};
    private static final String[] FORBIDDEN = {"throw", "throws", "try", "catch", "finally", "synchronized",
        "assert", "import", "package", "protected", "Exception", "Exact", "System\\.(?!arraycopy)", "->", "::", "Object",
        "\\b(Integer|Long|Math)\\.(?!(compare|max|min|abs|bitCount|floorDiv|floorMod)\\()"};

    public static void main(String[] args) throws IOException {
        looksAtMembers();
        looksAtClassesInside();
        looksAtSource();
        Check.end();
    }

    private static void looksAtMembers() {
        Class<?> c = CompassMarriage.class;
        Check.isTrue("the class is public and final", Modifier.isPublic(c.getModifiers()) && Modifier.isFinal(c.getModifiers()));
        Set<String> found = new TreeSet<>();
        for (Method m : c.getDeclaredMethods()) {
            if (!Modifier.isPrivate(m.getModifiers())) {
                Check.isTrue(m.getName() + " is public, not static", Modifier.isPublic(m.getModifiers()) && !Modifier.isStatic(m.getModifiers()));
                found.add(signature(m));
            } else {
                Check.isTrue("private " + m.getName() + " has a name of its own", !publicNames().contains(m.getName()));
            }
        }
        Check.isTrue("the methods are those of the document: " + found, found.equals(new TreeSet<>(Arrays.asList(FACE))));
        Set<String> constants = new TreeSet<>();
        for (Field f : c.getDeclaredFields()) {
            if (!Modifier.isPrivate(f.getModifiers())) {
                constants.add(f.getName());
            }
            Check.isTrue(f.getName() + ", if static, is final", !Modifier.isStatic(f.getModifiers()) || Modifier.isFinal(f.getModifiers()));
        }
        Check.isTrue("the constants are those of the document", constants.equals(Set.of("NONE", "BAD", "NOT", "FULL")));
        Constructor<?>[] made = c.getDeclaredConstructors();
        Check.isTrue("one public constructor", made.length == 1 && Modifier.isPublic(made[0].getModifiers()) && made[0].getParameterCount() == 0);
        Check.due("NONE", CompassMarriage.NONE, -1);
        Check.due("BAD", CompassMarriage.BAD, -2);
        Check.due("NOT", CompassMarriage.NOT, -3);
        Check.due("FULL", CompassMarriage.FULL, -4);
    }

    private static String signature(Method m) {
        StringBuilder s = new StringBuilder(m.getReturnType().getName() + " " + m.getName() + "(");
        for (Class<?> p : m.getParameterTypes()) {
            s.append(s.charAt(s.length() - 1) == '(' ? "" : ",").append(p.getName());
        }
        return s.append(")").toString();
    }

    private static Set<String> publicNames() {
        Set<String> names = new TreeSet<>();
        for (String line : FACE) {
            names.add(line.substring(line.indexOf(' ') + 1, line.indexOf('(')));
        }
        return names;
    }

    private static void looksAtClassesInside() {
        Class<?>[] inside = CompassMarriage.class.getDeclaredClasses();
        Check.isTrue("twelve classes at most", inside.length + 1 <= 12);
        for (Class<?> c : inside) {
            Check.isTrue(c.getName() + " is static, not public", Modifier.isStatic(c.getModifiers()) && !Modifier.isPublic(c.getModifiers()));
            for (Method m : c.getDeclaredMethods()) {
                Check.isTrue(c.getName() + "." + m.getName() + " has a name of its own", !publicNames().contains(m.getName()));
                Check.isTrue(m.getName() + " takes seven at most", m.getParameterCount() <= 7);
            }
        }
    }

    private static void looksAtSource() throws IOException {
        String source = Files.readString(Path.of("src/main/java/CompassMarriage.java"));
        String code = source.replaceAll("(?s)/\\*.*?\\*/", "").replaceAll("//[^\n]*", "");
        for (String word : FORBIDDEN) {
            String sought = word.matches("[A-Za-z]+") ? "\\b" + word + "\\b" : word;
            Matcher m = Pattern.compile(sought).matcher(code);
            Check.isTrue("the source has no " + word, !m.find());
        }
        for (char sign : source.toCharArray()) {
            if (sign > 126) {
                Check.isTrue("plain signs alone", false);
            }
        }
    }
}
