import java.lang.reflect.Constructor;
import java.lang.reflect.Field;
import java.lang.reflect.Method;
import java.lang.reflect.Modifier;
import java.nio.file.Files;
import java.nio.file.Path;
import java.util.ArrayList;
import java.util.List;
import java.util.Map;
import java.util.Set;
import java.util.TreeSet;
import java.util.regex.Matcher;
import java.util.regex.Pattern;

/** The public face as the document tells it, and those rules of LANGUAGE.md that can be seen from outside or in words. */
public final class FaceTest {
    private static final String SOURCE = "src/main/java/StoneVotes.java";
    private static final int MOST_LINES = 60, MOST_CLASSES = 12, MOST_FIELDS = 20, MOST_PARAMETERS = 7;
    private static final String[] FORBIDDEN = {
        "\\bthrow\\b", "\\bthrows\\b", "\\btry\\b", "\\bcatch\\b", "\\bsynchronized\\b", "\\bassert\\b", "->", "::",
        "\\bprotected\\b", "\\w+Exact\\b", "\\bpackage\\b", "\\bequals\\b", "\\bhashCode\\b", "\\btoString\\b",
        "\\bstatic \\{", "^import (?!java\\.util\\.Arrays;)",
    };
    // Of what LANGUAGE.md allows of the library, what the class needs.
    private static final Pattern LIBRARY = Pattern.compile("\\b(Math|Integer|Long|System|Arrays|String|List)\\.(\\w+)");
    private static final Set<String> NEEDED = Set.of("Math.min", "Math.max", "Math.abs", "Integer.bitCount",
        "Integer.compare", "Arrays.fill", "System.arraycopy");
    private static final Document DOCUMENT = new Document();
    private static int wrong = 0;

    private static void tell(String fault) {
        wrong++;
        System.out.println("FaceTest: " + fault);
    }

    public static void main(String[] args) throws Exception {
        String source = Files.readString(Path.of(SOURCE));
        theClass();
        members();
        wordsOfTheFace(source);
        promisesAreOfTheFace();
        noNameTwice();
        words(source.replaceAll("(?s)/\\*.*?\\*/", "").replaceAll("//[^\n]*", ""));
        sizes(source);
        System.out.println(wrong == 0 ? "FaceTest: the face is as told" : "FaceTest: " + wrong + " faults");
        if (wrong != 0) {
            System.exit(1);
        }
    }

    private static void theClass() {
        Class<?> c = StoneVotes.class;
        if (c.getModifiers() != (Modifier.PUBLIC | Modifier.FINAL) || !c.getPackageName().isEmpty()) {
            tell("the class is not public and final, without a package");
        }
        if (c.getSuperclass() != Object.class || c.getInterfaces().length != 0) {
            tell("the class is of another kind, too");
        }
    }

    private static String typesOf(Class<?>[] parameters) {
        List<String> types = new ArrayList<>();
        for (Class<?> c : parameters) {
            types.add(c.getName());
        }
        return "(" + String.join(", ", types) + ");";
    }

    /** The members of the class that are not private, as lines of a face whose parameters have no names. */
    private static Set<String> found() throws Exception {
        Set<String> found = new TreeSet<>();
        for (Constructor<?> c : StoneVotes.class.getDeclaredConstructors()) {
            found.add(Modifier.toString(c.getModifiers()) + " StoneVotes" + typesOf(c.getParameterTypes()));
        }
        for (Method m : StoneVotes.class.getDeclaredMethods()) {
            if (!Modifier.isPrivate(m.getModifiers()) && !m.isSynthetic()) {
                found.add(Modifier.toString(m.getModifiers()) + " " + m.getReturnType().getName() + " " + m.getName()
                    + typesOf(m.getParameterTypes()));
            }
        }
        for (Field f : StoneVotes.class.getDeclaredFields()) {
            if (!Modifier.isPrivate(f.getModifiers())) {
                found.add(Modifier.toString(f.getModifiers()) + " " + f.getType().getName() + " " + f.getName() + " = "
                    + f.get(null));
            }
        }
        return found;
    }

    private static boolean isMember(String line) {
        return line.endsWith(";");
    }

    private static void members() throws Exception {
        Set<String> due = new TreeSet<>();
        for (String line : DOCUMENT.face()) {
            if (line.contains(" = ")) {
                String kind = line.substring(0, line.indexOf(" int ") + 5);
                for (String constant : line.substring(kind.length(), line.length() - 1).split(", ")) {
                    due.add(kind + constant);
                }
            } else if (isMember(line)) {
                due.add(line.replaceAll("(\\((?:int)|, int) \\w+", "$1"));
            }
        }
        if (due.size() != 4 + 1 + 34) {
            tell("the document's face has " + due.size() + " members");
        }
        Set<String> found = found();
        if (!found.equals(due)) {
            Set<String> more = new TreeSet<>(found);
            more.removeAll(due);
            due.removeAll(found);
            tell("the face lacks " + due + " and has " + more + " beside it");
        }
    }

    /** The names of the parameters and the order of the members, too, are the document's. */
    private static void wordsOfTheFace(String source) {
        int from = 0;
        for (String line : DOCUMENT.face()) {
            String words = line.endsWith(");") ? line.replace(");", ") {") : line;
            int at = line.equals("}") ? from : source.indexOf(words, from);
            if (at < 0) {
                tell("the source does not say, or not there: " + words);
            }
            from = Math.max(from, at);
        }
    }

    private static void promisesAreOfTheFace() {
        List<String> face = new ArrayList<>();
        for (String line : DOCUMENT.face()) {
            if (line.endsWith(");")) {
                face.add(line.replace("public ", "").replace(";", ""));
            }
        }
        List<String> promised = new ArrayList<>();
        for (Map.Entry<Integer, String> promise : DOCUMENT.signatures().entrySet()) {
            promised.add(promise.getValue());
        }
        if (!promised.equals(face)) {
            tell("the promises are of " + promised);
        }
    }

    private static void noNameTwice() {
        List<String> names = new ArrayList<>();
        for (Method m : StoneVotes.class.getMethods()) {
            names.add(m.getName());
        }
        for (Class<?> c : classes()) {
            if (c != StoneVotes.class && !Modifier.isStatic(c.getModifiers())) {
                tell("an inner class that is not static: " + c.getName());
            }
            for (Method m : c.getDeclaredMethods()) {
                if (!Modifier.isPublic(m.getModifiers()) && names.contains(m.getName())) {
                    tell("a method of its own bears a public name: " + c.getName() + " " + m.getName());
                }
                if (m.getParameterCount() > MOST_PARAMETERS) {
                    tell("more than seven parameters: " + m.getName());
                }
            }
        }
    }

    private static List<Class<?>> classes() {
        List<Class<?>> all = new ArrayList<>(List.of(StoneVotes.class.getDeclaredClasses()));
        all.add(StoneVotes.class);
        return all;
    }

    private static void words(String code) {
        for (String word : FORBIDDEN) {
            Matcher m = Pattern.compile(word, Pattern.MULTILINE).matcher(code);
            if (m.find()) {
                tell("the source has " + m.group());
            }
        }
        for (Matcher m = LIBRARY.matcher(code); m.find(); ) {
            if (!NEEDED.contains(m.group())) {
                tell("the source uses " + m.group());
            }
        }
    }

    private static void sizes(String source) {
        if (classes().size() > MOST_CLASSES) {
            tell("more than twelve classes");
        }
        for (Class<?> c : classes()) {
            int fields = 0;
            for (Field f : c.getDeclaredFields()) {
                if (!Modifier.isStatic(f.getModifiers())) {
                    fields++;
                } else if (!Modifier.isFinal(f.getModifiers())) {
                    tell("a static field that is not final: " + f.getName());
                }
            }
            if (fields > MOST_FIELDS) {
                tell("more than twenty fields: " + c.getName());
            }
        }
        // A method's body ends where a brace stands as far in as its head.
        Pattern method = Pattern.compile("(?m)^( +)(?!private static final class)[\\w\\[\\] ]*\\w+\\([^;{]*\\) \\{$");
        for (Matcher m = method.matcher(source); m.find(); ) {
            int end = source.indexOf("\n" + m.group(1) + "}", m.end());
            long lines = source.substring(m.start(), Math.max(m.end(), end)).lines().count();
            if (lines > MOST_LINES) {
                tell("longer than sixty lines: " + m.group().trim());
            }
        }
    }
}
