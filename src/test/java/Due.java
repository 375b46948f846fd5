import java.lang.reflect.Method;
import java.util.Arrays;
import java.util.Comparator;
import java.util.List;

/** Compares answers with those that are due, and tells at the end whether all were. */
final class Due {
    private int asked;
    private int wrong;
    private String test = "";

    void is(String what, long got, long want) {
        asked++;
        if (got != want) {
            tell(what + " answered " + got + ", due is " + want);
        }
    }

    void isTrue(String what, boolean holds) {
        is(what, holds ? 1 : 0, 1);
    }

    /** Two lists of answers, of which the first that is not alike is told. */
    void same(String what, List<String> got, List<String> want) {
        asked++;
        int i = 0;
        while (i < got.size() && i < want.size() && got.get(i).equals(want.get(i))) {
            i++;
        }
        if (i < got.size() || i < want.size()) {
            tell(what + ": " + at(got, i) + ", due is " + at(want, i));
        }
    }

    private static String at(List<String> list, int i) {
        return i < list.size() ? list.get(i) : "nothing";
    }

    private void tell(String fault) {
        wrong++;
        System.out.println(test + fault);
    }

    /** Runs each test of a class, that is each of its methods whose name begins so, and ends. */
    void runTests(Class<?> home, String beginning) throws ReflectiveOperationException {
        Method[] methods = home.getDeclaredMethods();
        Arrays.sort(methods, Comparator.comparing(Method::getName));
        int tests = 0;
        for (Method m : methods) {
            if (m.getName().startsWith(beginning)) {
                int before = asked;
                test = m.getName() + ": ";
                m.invoke(null);
                isTrue("something is asked", asked > before);
                tests++;
            }
        }
        test = "";
        isTrue("there are tests", tests > 0);
        System.out.print(tests + " tests, ");
        end();
    }

    void end() {
        System.out.println((asked - wrong) + " of " + asked + " answers are as due");
        if (wrong != 0 || asked == 0) {
            System.exit(1);
        }
    }
}
