import java.lang.reflect.Constructor;
import java.lang.reflect.Field;
import java.lang.reflect.Method;
import java.lang.reflect.Modifier;
import java.nio.file.Files;
import java.nio.file.Path;
import java.util.ArrayList;
import java.util.HashSet;
import java.util.List;
import java.util.Set;
import java.util.TreeSet;
import java.util.regex.Matcher;
import java.util.regex.Pattern;

/** The public face, and those rules of LANGUAGE.md that a look at the source or the class can tell. */
public final class FaceTest {
    private static final String[] FACE = {
        "int tower(int,int)", "int lamp(int)", "int reach(int)", "int now(int)",
        "int ship(int,int)", "int of(int,int)", "int set(int,int,int)", "int turn(int,int)", "int as(int,int)",
        "int hours(int)", "int on(int,int,int)", "int then(int,int)", "int comes(int)", "int wrecks(int)",
        "int row(int)", "int kind(int)", "int shine(int)", "int hour(int)", "int site(int)", "int nearest(int)",
        "int feed(int,int)", "int wipe()", "int sea()",
        "int sheet(int,int,int)", "long write(int,int,long)", "int copy(int,int,int,int,int)", "int lays(int)",
        "int book(int,int)", "int read(int,int)",
        "int image()", "int undo()", "int tear()", "int count(int)", "int status(int)"};

    private static final String[] FORBIDDEN = {"throw", "throws", "try", "catch", "finally", "synchronized", "assert",
        "import", "package", "protected", "var", "enum", "->", "::", "@", "Exact", "hashCode", "toString", "getClass",
        "Object", "Thread", "Random", "double", "float", "native", "volatile", "transient"};

    public static void main(String[] args) throws Exception {
        face();
        classesInside();
        source(withoutTextsAndComments(Files.readString(Path.of("src/main/java/TowerWarns.java"))));
        Check.end("FaceTest");
    }

    private static void face() {
        Class<?> c = TowerWarns.class;
        Check.holds("public and final", Modifier.isPublic(c.getModifiers()) && Modifier.isFinal(c.getModifiers()));
        Set<String> found = new TreeSet<>();
        Set<String> names = new HashSet<>();
        for (Method m : c.getDeclaredMethods()) {
            if (!Modifier.isPrivate(m.getModifiers())) {
                List<String> types = new ArrayList<>();
                for (Class<?> t : m.getParameterTypes()) {
                    types.add(t.getName());
                }
                found.add(m.getReturnType().getName() + " " + m.getName() + "(" + String.join(",", types) + ")");
                names.add(m.getName());
            }
        }
        Set<String> due = new TreeSet<>(List.of(FACE));
        Check.holds("the methods of the face are " + due + ", found " + found, found.equals(due));
        Constructor<?>[] made = c.getDeclaredConstructors();
        Check.holds("one public constructor", made.length == 1 && Modifier.isPublic(made[0].getModifiers())
            && made[0].getParameterCount() == 0);
        for (Field f : c.getDeclaredFields()) {
            Check.holds(f + " is private", Modifier.isPrivate(f.getModifiers()));
        }
        otherMethods(c, names);
    }

    private static void otherMethods(Class<?> c, Set<String> names) {
        List<Class<?>> all = new ArrayList<>(List.of(c.getDeclaredClasses()));
        all.add(c);
        for (Class<?> one : all) {
            for (Method m : one.getDeclaredMethods()) {
                if (one != c || Modifier.isPrivate(m.getModifiers())) {
                    Check.holds(m + " bears no public name", !names.contains(m.getName()));
                }
                Check.holds(m + " takes at most seven", m.getParameterCount() <= 7);
            }
            for (Field f : one.getDeclaredFields()) {
                Check.holds(f + " is final if static", !Modifier.isStatic(f.getModifiers()) || Modifier.isFinal(f.getModifiers()));
            }
        }
    }

    private static void classesInside() {
        Class<?>[] inside = TowerWarns.class.getDeclaredClasses();
        Check.holds("at most some twelve classes", inside.length <= 11);
        for (Class<?> c : inside) {
            int m = c.getModifiers();
            Check.holds(c + " is static and private", Modifier.isStatic(m) && Modifier.isPrivate(m));
            Check.due(c + " has no class inside", c.getDeclaredClasses().length, 0);
            long own = java.util.Arrays.stream(c.getDeclaredFields()).filter(f -> !Modifier.isStatic(f.getModifiers())).count();
            Check.holds(c + " has at most twenty fields", own <= 20);
        }
    }

    private static String withoutTextsAndComments(String source) {
        return source.replaceAll("(?s)/\\*.*?\\*/", "").replaceAll("//[^\n]*", "").replaceAll("\"[^\"]*\"", "\"\"");
    }

    private static void source(String source) {
        for (String word : FORBIDDEN) {
            String bound = Character.isLetter(word.charAt(0)) ? "\\b" : "";
            String before = word.equals("Exact") ? "" : bound;
            Check.holds("no '" + word + "'", !Pattern.compile(before + Pattern.quote(word) + bound).matcher(source).find());
        }
        Check.holds("texts are not joined by +", !source.contains("\" +") && !source.contains("+ \""));
        Check.holds("no static block", !Pattern.compile("\\bstatic\\s*\\{").matcher(source).find());
        methodsAreShort(source);
        nothingIsMadeByACall(source);
    }

    /** Methods of the outer class are indented by four, those of the classes inside by eight. */
    private static void methodsAreShort(String source) {
        String[] lines = source.split("\n", -1);
        for (int i = 0; i < lines.length; i++) {
            Matcher m = Pattern.compile("^( {4}| {8})\\S.*\\) \\{$").matcher(lines[i]);
            if (m.find()) {
                int end = i;
                while (!lines[end].equals(m.group(1) + "}")) {
                    end++;
                }
                Check.holds("at most sixty lines: " + lines[i].trim(), end - i < 60);
            }
        }
    }

    /** All calls of a run live in one room that is never cleared, so only constructors make something. */
    private static void nothingIsMadeByACall(String source) {
        String inside = "";
        for (String line : source.split("\n")) {
            Matcher m = Pattern.compile("^ {4,8}(?:\\w+ )*(\\w+)\\([^;=]*\\) \\{$").matcher(line);
            if (m.find()) {
                inside = m.group(1);
            }
            if (Pattern.compile("\\bnew\\b").matcher(line).find()) {
                Check.holds("made by a constructor: " + line.trim(), Character.isUpperCase(inside.charAt(0)));
            }
        }
    }
}
