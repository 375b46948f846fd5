import java.lang.reflect.Constructor;
import java.lang.reflect.Field;
import java.lang.reflect.Method;
import java.lang.reflect.Modifier;
import java.nio.file.Files;
import java.nio.file.Path;
import java.util.ArrayList;
import java.util.List;
import java.util.Set;
import java.util.TreeSet;
import java.util.regex.Matcher;
import java.util.regex.Pattern;

/** The class's face is the document's and no more, and its text keeps to the rules of the language. */
public final class FaceTest {
    private static final List<String> FACE = List.of(
            "house(int,int,int,int)", "person(int,int,int,int,int,int,int)", "speed(int)", "anew()", "ticks(int)",
            "stop(boolean)", "shut(int,boolean)", "box(int,int)", "left()", "about(int,int)", "stands(int,int)",
            "safe(int)", "cost(int,int)", "bestSpeed()", "bestStairs()", "day(int)", "wheel()", "turn(int)",
            "counted(int,int)", "tell(int,int,int)", "fits(int)", "wrong()", "keep()", "beside(int,int)",
            "count(int)");
    private static final String LEFT_OUT =
            "\\b(throw|throws|try|catch|finally|synchronized|assert|volatile|native|protected|"
            + "System\\.(out|err|in|nanoTime|currentTimeMillis)|Random|Thread|File|Exact|var)\\b|->|::";
    private static final Set<String> LIBRARY =
            Set.of("Arrays.fill", "Integer.signum", "Math.abs", "Math.floorMod", "Math.max", "Math.min");
    private static final int LONGEST_METHOD = 60;
    private static final int MOST_FIELDS = 20;
    private static final int MOST_CLASSES = 12;
    private static final int MOST_PARAMETERS = 7;

    private static final Due due = new Due();

    public static void main(String[] args) throws Exception {
        face();
        members(CabinChain.class);
        Class<?>[] inside = CabinChain.class.getDeclaredClasses();
        due.isTrue("few classes", inside.length < MOST_CLASSES);
        for (Class<?> c : inside) {
            due.isTrue(c + " is static", Modifier.isStatic(c.getModifiers()));
            due.isTrue(c + " is not public", !Modifier.isPublic(c.getModifiers()));
            members(c);
        }
        text(Files.readString(Path.of("src/main/java/CabinChain.java")));
        due.end();
    }

    private static void face() {
        due.isTrue("public and final", Modifier.isPublic(CabinChain.class.getModifiers())
                && Modifier.isFinal(CabinChain.class.getModifiers()));
        Set<String> open = new TreeSet<>();
        Set<String> privates = new TreeSet<>();
        for (Method m : CabinChain.class.getDeclaredMethods()) {
            if (Modifier.isPrivate(m.getModifiers())) {
                privates.add(m.getName());
            } else if (!m.isSynthetic()) {
                due.isTrue(m + " is public", Modifier.isPublic(m.getModifiers()));
                due.isTrue(m + " answers an int", m.getReturnType() == int.class);
                open.add(told(m));
            }
        }
        due.isTrue("the document's methods and no other", open.equals(new TreeSet<>(FACE)));
        for (String method : FACE) {
            due.isTrue(method + " has no private namesake", !privates.contains(method.split("\\(")[0]));
        }
        Set<String> constants = new TreeSet<>();
        for (Field f : CabinChain.class.getDeclaredFields()) {
            if (!Modifier.isPrivate(f.getModifiers())) {
                due.isTrue(f + " is public, static, final", f.getModifiers()
                        == (Modifier.PUBLIC | Modifier.STATIC | Modifier.FINAL));
                constants.add(f.getName());
            }
        }
        due.isTrue("the document's constants", constants.equals(Set.of("BAD", "NO", "FULL", "NONE")));
        Constructor<?>[] constructors = CabinChain.class.getDeclaredConstructors();
        due.is("constructors", constructors.length, 1);
        due.is("its parameters", constructors[0].getParameterCount(), 0);
        due.isTrue("it is public", Modifier.isPublic(constructors[0].getModifiers()));
    }

    private static String told(Method m) {
        List<String> types = new ArrayList<>();
        for (Class<?> type : m.getParameterTypes()) {
            types.add(type.getName());
        }
        return m.getName() + "(" + String.join(",", types) + ")";
    }

    private static void members(Class<?> c) {
        int fields = 0;
        for (Field f : c.getDeclaredFields()) {
            if (Modifier.isStatic(f.getModifiers())) {
                due.isTrue(f + " is final", Modifier.isFinal(f.getModifiers()));
            } else {
                fields++;
            }
        }
        due.isTrue(c + " has few fields", fields <= MOST_FIELDS);
        for (Method m : c.getDeclaredMethods()) {
            due.isTrue(m + " has few parameters", m.getParameterCount() <= MOST_PARAMETERS);
            if (c != CabinChain.class) {
                due.isTrue(m + " is no namesake of the face's",
                        FACE.stream().noneMatch(f -> f.startsWith(m.getName() + "(")));
            }
        }
    }

    private static void text(String source) {
        String code = source.replaceAll("(?s)/\\*.*?\\*/", "").replaceAll("//.*", "");
        Matcher found = Pattern.compile(LEFT_OUT).matcher(code);
        while (found.find()) {
            due.isTrue("the text has " + found.group(), false);
        }
        due.isTrue("no package", !code.contains("package "));
        due.isTrue("one import", code.split("\\bimport\\b", -1).length == 2 && code.contains("import java.util.Arrays;"));
        due.isTrue("plain characters", source.chars().allMatch(ch -> ch < 128));
        library(code);
        methodsAreShort(code.split("\n"));
    }

    private static void library(String code) {
        Matcher found = Pattern.compile("\\b[A-Z][a-z]\\w*\\.\\w+").matcher(code.replaceAll("import .*", ""));
        Set<String> used = new TreeSet<>();
        while (found.find()) {
            used.add(found.group());
        }
        due.isTrue("of the library " + LIBRARY + ", and not " + used, used.equals(LIBRARY));
    }

    /** A method begins with a line that ends in "){" at some depth and ends with the next brace at that depth. */
    private static void methodsAreShort(String[] lines) {
        int methods = 0;
        for (int i = 0; i < lines.length; i++) {
            Matcher head = Pattern.compile("^( {4}| {8})(?=\\S)[\\w\\[\\] ]+\\(.*\\) \\{$").matcher(lines[i]);
            if (head.find() && !lines[i].trim().matches("(for|if|switch|while) .*")) {
                int end = i;
                while (!lines[end].equals(head.group(1) + "}")) {
                    end++;
                }
                methods++;
                due.isTrue("it is short: " + lines[i].trim(), end - i < LONGEST_METHOD);
            }
        }
        due.isTrue("methods were found", methods > FACE.size());
    }
}
