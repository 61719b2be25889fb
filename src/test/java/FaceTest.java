import java.lang.reflect.Constructor;
import java.lang.reflect.Field;
import java.lang.reflect.Method;
import java.lang.reflect.Modifier;
import java.nio.file.Files;
import java.nio.file.Path;
import java.util.List;
import java.util.Set;
import java.util.TreeSet;
import java.util.regex.Matcher;
import java.util.regex.Pattern;

/** The public face, and those rules of LANGUAGE.md that can be seen without running the class. */
public final class FaceTest {
    private static final Path SOURCE = Path.of("src/main/java/PointsToRounds.java");

    private static final Set<String> FACE = Set.of("cls/1", "field/1", "method/2", "statement/7", "mode/1",
        "clear/0", "points/3", "inField/2", "element/1", "inStatic/1", "reached/1", "may/1", "alias/4",
        "rounds/0", "when/3", "run/2", "met/2", "ran/1");

    /** Words that the language leaves out, or that only stand in code which it leaves out. */
    private static final String[] BANNED = {"\\bthrow\\b", "\\bthrows\\b", "\\btry\\b", "\\bcatch\\b",
        "\\bsynchronized\\b", "\\bassert\\b", "\\bpackage\\b", "->", "::", "Exact\\s*\\(", "\\bObject\\b",
        "\\bException\\b", "\\bError\\b", "\\bRandom\\b", "\\bSystem\\.(?!arraycopy\\b)",
        "\\bhashCode\\b", "\\bequals\\b", "\\btoString\\b", "\\bstatic\\s*\\{"};

    private static int wrong = 0;

    private static void want(boolean fine, String what) {
        if (!fine) {
            wrong++;
            System.out.println(what);
        }
    }

    private static void face() {
        Class<?> c = PointsToRounds.class;
        want(Modifier.isPublic(c.getModifiers()) && Modifier.isFinal(c.getModifiers()), "not public and final");
        Set<String> seen = new TreeSet<>();
        for (Method m : c.getDeclaredMethods()) {
            if (m.isSynthetic()) continue;
            if (Modifier.isPublic(m.getModifiers())) {
                seen.add(m.getName() + "/" + m.getParameterCount());
                want(m.getReturnType() == int.class, m.getName() + " does not answer an int");
                for (Class<?> type : m.getParameterTypes()) {
                    want(type == int.class, m.getName() + " takes a " + type);
                }
            } else {
                want(Modifier.isPrivate(m.getModifiers()), m.getName() + " is neither public nor private");
                isNotOfFace(m);
            }
        }
        want(seen.equals(new TreeSet<>(FACE)), "the face is " + seen);
        Constructor<?>[] constructors = c.getDeclaredConstructors();
        want(constructors.length == 1 && constructors[0].getParameterCount() == 0
            && Modifier.isPublic(constructors[0].getModifiers()), "not one public constructor without arguments");
        for (Field f : c.getDeclaredFields()) {
            want(f.isSynthetic() || Modifier.isPrivate(f.getModifiers()), f.getName() + " is not private");
        }
    }

    private static void insideClasses() {
        Class<?>[] inside = PointsToRounds.class.getDeclaredClasses();
        want(inside.length <= 12, "more than twelve classes");
        for (Class<?> c : inside) {
            want(Modifier.isStatic(c.getModifiers()), c.getName() + " is not static");
            want(!Modifier.isPublic(c.getModifiers()), c.getName() + " is public");
            want(c.getDeclaredFields().length <= 20, c.getName() + " has more than twenty fields");
            for (Method m : c.getDeclaredMethods()) {
                want(m.getParameterCount() <= 7, m.getName() + " takes more than seven");
                isNotOfFace(m);
            }
        }
        for (Class<?> c : PointsToRounds.class.getDeclaredClasses()) {
            staticsAreConstants(c);
        }
        staticsAreConstants(PointsToRounds.class);
    }

    private static void isNotOfFace(Method m) {
        for (String name : FACE) {
            want(!name.startsWith(m.getName() + "/"), m.getName() + " bears the name of a public one");
        }
    }

    private static void staticsAreConstants(Class<?> c) {
        for (Field f : c.getDeclaredFields()) {
            boolean fine = !Modifier.isStatic(f.getModifiers()) || Modifier.isFinal(f.getModifiers());
            want(fine, f.getName() + " is static and not final");
        }
    }

    private static void source() throws Exception {
        String text = Files.readString(SOURCE).replaceAll("(?s)/\\*.*?\\*/", "").replaceAll("//[^\n]*", "");
        for (String banned : BANNED) {
            Matcher found = Pattern.compile(banned).matcher(text);
            want(!found.find(), "the source has " + banned);
        }
        Matcher imports = Pattern.compile("import\\s+([^;]+);").matcher(text);
        while (imports.find()) {
            want(imports.group(1).matches("java\\.util\\.(Arrays|ArrayList|List|Iterator)"), imports.group());
        }
        for (char ch : Files.readString(SOURCE).toCharArray()) {
            want(ch < 256, "a character above 255");
        }
    }

    /** A method begins at a line with an opening brace and ends at the next brace as far to the left. */
    private static void methodsAreShort() throws Exception {
        List<String> lines = Files.readAllLines(SOURCE);
        for (int start = 0; start < lines.size(); start++) {
            Matcher head = Pattern.compile("( +)[\\w\\[\\] ]*\\w\\([^()]*\\) \\{").matcher(lines.get(start));
            if (!head.matches()) continue;
            int end = start;
            while (end < lines.size() && !lines.get(end).equals(head.group(1) + "}")) {
                end++;
            }
            want(end - start < 60, "sixty lines or more: " + lines.get(start));
        }
    }

    public static void main(String[] args) throws Exception {
        face();
        insideClasses();
        source();
        methodsAreShort();
        System.out.println(wrong == 0 ? "the face is as told" : wrong + " faults in the face");
        if (wrong != 0) {
            System.exit(1);
        }
    }
}
