import java.io.IOException;
import java.lang.reflect.Method;
import java.lang.reflect.Modifier;
import java.nio.file.Files;
import java.nio.file.Path;
import java.util.ArrayList;
import java.util.List;
import java.util.Set;
import java.util.TreeSet;
import java.util.regex.Matcher;
import java.util.regex.Pattern;
import java.util.stream.Stream;

/** What README.md shows of calls and answers is so, and it leaves out no call and no test. */
public final class ReadmeTest {
    private static final String NEW_OBJECT = "CabinChain chain = new CabinChain();";
    private static final Pattern SHOWN_CALL =
            Pattern.compile("chain\\.(\\w+)\\((.*?)\\); +// (-?\\d+|BAD|NO|FULL|NONE)(: \\S.*)?");
    private static final Pattern NAMED_TEST = Pattern.compile("\\b[A-Z]\\w*Test\\b");
    private static final Path TESTS = Path.of("src/test/java");

    private static final Due due = new Due();

    public static void main(String[] args) throws Exception {
        String text = Files.readString(Path.of("README.md"));
        Set<String> shown = new TreeSet<>();
        for (List<String> example : examples(text.split("\n"))) {
            shown.addAll(play(example));
        }
        noCallIsLeftOut(text, shown);
        testsAreNamed(text);
        due.end();
    }

    /** The lines of each block of Java. */
    private static List<List<String>> examples(String[] lines) {
        List<List<String>> all = new ArrayList<>();
        boolean inside = false;
        for (String line : lines) {
            if (line.startsWith("```")) {
                inside = line.equals("```java");
                if (inside) {
                    all.add(new ArrayList<>());
                }
            } else if (inside) {
                all.get(all.size() - 1).add(line);
            }
        }
        due.isTrue("the last block has an end", !inside);
        due.isTrue("examples are shown", !all.isEmpty());
        return all;
    }

    /** Makes the calls of one example on a new object: the names of those that were made. */
    private static Set<String> play(List<String> example) throws ReflectiveOperationException {
        Set<String> made = new TreeSet<>();
        due.isTrue("an example begins with a new object", example.indexOf(NEW_OBJECT) == 0);
        CabinChain chain = new CabinChain();
        for (String line : example.subList(1, example.size())) {
            Matcher call = SHOWN_CALL.matcher(line);
            if (call.matches()) {
                due.is(line, answer(chain, call.group(1), call.group(2)), number(call.group(3)));
                made.add(call.group(1));
            } else {
                due.isTrue("a call with its answer: " + line, false);
            }
        }
        return made;
    }

    private static int answer(CabinChain chain, String name, String told) throws ReflectiveOperationException {
        String[] words = told.isEmpty() ? new String[0] : told.split(", ");
        Method method = method(name);
        Class<?>[] types = method.getParameterTypes();
        due.is(name + " takes as many", types.length, words.length);
        Object[] values = new Object[types.length];
        for (int i = 0; i < types.length; i++) {
            values[i] = types[i] == boolean.class ? (Object) truth(words[i]) : (Object) Integer.valueOf(words[i]);
        }
        return (Integer) method.invoke(chain, values);
    }

    private static Method method(String name) {
        for (Method m : CabinChain.class.getDeclaredMethods()) {
            if (Modifier.isPublic(m.getModifiers()) && m.getName().equals(name)) {
                return m;
            }
        }
        throw new IllegalArgumentException("README.md shows " + name + ", which the class has not");
    }

    private static boolean truth(String word) {
        due.isTrue(word + " is true or false", word.equals("true") || word.equals("false"));
        return word.equals("true");
    }

    private static int number(String word) {
        switch (word) {
            case "BAD": return CabinChain.BAD;
            case "NO": return CabinChain.NO;
            case "FULL": return CabinChain.FULL;
            case "NONE": return CabinChain.NONE;
            default: return Integer.parseInt(word);
        }
    }

    private static void noCallIsLeftOut(String text, Set<String> shown) {
        for (Method m : CabinChain.class.getDeclaredMethods()) {
            if (Modifier.isPublic(m.getModifiers())) {
                due.isTrue(m.getName() + " is shown", shown.contains(m.getName()));
                due.isTrue(m.getName() + " is told of", text.contains("\n| `" + m.getName() + "("));
            }
        }
    }

    /** Each test that is named is there, and each that is there is named; the promises' by their first and last. */
    private static void testsAreNamed(String text) throws IOException {
        Matcher named = NAMED_TEST.matcher(text);
        while (named.find()) {
            due.isTrue(named.group() + " is there", Files.exists(TESTS.resolve(named.group() + ".java")));
        }
        try (Stream<Path> files = Files.list(TESTS)) {
            for (Path file : files.toList()) {
                String name = file.getFileName().toString().replace(".java", "");
                if (!name.matches("Promise\\d\\d.*")) {
                    due.isTrue(name + " is named", text.contains("`" + name + "`"));
                }
            }
        }
    }
}
