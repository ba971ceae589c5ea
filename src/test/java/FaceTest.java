import java.lang.reflect.Field;
import java.lang.reflect.Method;
import java.lang.reflect.Modifier;
import java.nio.file.Files;
import java.nio.file.Path;
import java.util.ArrayList;
import java.util.Collections;
import java.util.List;
import java.util.regex.Matcher;
import java.util.regex.Pattern;

/** The public face, and those rules of LANGUAGE.md that can be seen from outside or in the source's words. */
public final class FaceTest {
    private static final String SOURCE = "src/main/java/StoneVotes.java";
    private static final String[] METHODS = {
        "int arm(int,int)", "int carry(int,int,int)", "int copy(int,int,int,int,int)", "int count(int)",
        "int doubles()", "int fault(int)", "int fewest(int)", "int game(int,int)", "int get(int,int,int)",
        "int hold(int)", "int judged()", "int laid(int)", "int lay(int,int,int,int)", "int lose(int)",
        "int most(int)", "int person(int,int)", "int read(int)", "int result(int)", "int secret(int,int)",
        "int set(int,int)", "int settled()", "int sheet(int,int,int)", "int shelf(int,int,int)", "int slid(int)",
        "int stone(int,int)", "int tide(int,int)", "int tip(int)", "int type(int,int)", "int undo()", "int when()",
        "int wipe(int)", "int without(int)", "int write(int)", "long digest()",
    };
    private static final String[] FORBIDDEN = {
        "\\bthrow\\b", "\\bthrows\\b", "\\btry\\b", "\\bcatch\\b", "\\bsynchronized\\b", "\\bassert\\b", "->", "::",
        "\\bprotected\\b", "\\w+Exact\\b", "\\bpackage\\b", "\\bequals\\b", "\\bhashCode\\b", "\\btoString\\b",
        "^import (?!java\\.util\\.Arrays;)",
    };
    private static int wrong = 0;

    private static void tell(String fault) {
        wrong++;
        System.out.println("FaceTest: " + fault);
    }

    public static void main(String[] args) throws Exception {
        face();
        noNameTwice();
        words();
        System.out.println(wrong == 0 ? "FaceTest: the face is as told" : "FaceTest: " + wrong + " faults");
        if (wrong != 0) {
            System.exit(1);
        }
    }

    private static String signature(Method m) {
        List<String> types = new ArrayList<>();
        for (Class<?> c : m.getParameterTypes()) {
            types.add(c.getName());
        }
        return m.getReturnType().getName() + " " + m.getName() + "(" + String.join(",", types) + ")";
    }

    private static void face() throws Exception {
        int modifiers = StoneVotes.class.getModifiers();
        if (!Modifier.isPublic(modifiers) || !Modifier.isFinal(modifiers)) {
            tell("the class is not public and final");
        }
        List<String> found = new ArrayList<>();
        for (Method m : StoneVotes.class.getDeclaredMethods()) {
            if (!Modifier.isPrivate(m.getModifiers()) && !m.isSynthetic()) {
                found.add(signature(m));
            }
        }
        Collections.sort(found);
        if (!found.equals(List.of(METHODS))) {
            tell("the methods are " + found);
        }
        List<String> constants = new ArrayList<>();
        for (Field f : StoneVotes.class.getDeclaredFields()) {
            if (Modifier.isStatic(f.getModifiers()) && !Modifier.isFinal(f.getModifiers())) {
                tell("a static field that is not final: " + f.getName());
            }
            if (!Modifier.isPrivate(f.getModifiers())) {
                constants.add(f.getName() + " " + f.getInt(null));
            }
        }
        if (!constants.equals(List.of("NONE -1", "BAD -2", "NOT -3", "FULL -4"))) {
            tell("the constants are " + constants);
        }
        if (StoneVotes.class.getDeclaredConstructors().length != 1) {
            tell("there is more than one constructor");
        }
    }

    private static void noNameTwice() {
        List<String> names = new ArrayList<>();
        for (Method m : StoneVotes.class.getMethods()) {
            names.add(m.getName());
        }
        List<Class<?>> all = new ArrayList<>(List.of(StoneVotes.class.getDeclaredClasses()));
        for (Class<?> c : all) {
            if (!Modifier.isStatic(c.getModifiers())) {
                tell("an inner class that is not static: " + c.getName());
            }
        }
        all.add(StoneVotes.class);
        for (Class<?> c : all) {
            for (Method m : c.getDeclaredMethods()) {
                if (!Modifier.isPublic(m.getModifiers()) && names.contains(m.getName())) {
                    tell("a method of its own bears a public name: " + c.getName() + " " + m.getName());
                }
                if (m.getParameterCount() > 7) {
                    tell("more than seven parameters: " + m.getName());
                }
            }
        }
    }

    private static void words() throws Exception {
        String source = Files.readString(Path.of(SOURCE));
        String code = source.replaceAll("(?s)/\\*.*?\\*/", "").replaceAll("//[^\n]*", "");
        for (String word : FORBIDDEN) {
            Matcher m = Pattern.compile(word, Pattern.MULTILINE).matcher(code);
            if (m.find()) {
                tell("the source has " + m.group());
            }
        }
    }
}
