import java.lang.reflect.InvocationTargetException;
import java.lang.reflect.Method;
import java.util.Arrays;
import java.util.Comparator;
import java.util.List;
import java.util.function.Consumer;
import java.util.function.Function;

/** What the tests by hand share: short ways to build rules, and the count of the answers that are not as due. */
abstract class Sheet {
    static final int EQ = 0;
    static final int NE = 1;
    static final int LESS = 2;
    static final int BIND = 3;
    static final int DROP = 0;
    static final int PRINT = 1;
    static final int HALT = 2;
    static final int MIN = Integer.MIN_VALUE;
    static final int MAX = Integer.MAX_VALUE;

    private static int wrong = 0;
    private static int parts = 0;
    private static String part = "";
    private static int row = 0;

    /**
     * Begins a part. In the tests of boundary cases its name is the sentence of the document that it is about, with
     * two dots where words are left out, and after a colon the case where the sentence has more than one.
     */
    static void about(String words) {
        part = words;
        parts++;
        row = 0;
    }

    static void due(int want, int got) {
        same(Integer.toString(want), Integer.toString(got));
    }

    static void yes(boolean got) {
        same("true", Boolean.toString(got));
    }

    static void no(boolean got) {
        same("false", Boolean.toString(got));
    }

    static void same(String want, String got) {
        row++;
        if (!got.equals(want)) {
            wrong++;
            System.out.println(part + ", row " + row + ": answered " + got + ", due is " + want);
        }
    }

    /** Every method of the class that takes and answers nothing is a test, so that none can be forgotten. */
    static void runAll(Class<?> tests) throws IllegalAccessException {
        Method[] methods = tests.getDeclaredMethods();
        Arrays.sort(methods, Comparator.comparing(Method::getName));
        for (Method method : methods) {
            if (method.isSynthetic() || method.getParameterCount() > 0 || method.getReturnType() != void.class) {
                continue;
            }
            int before = parts;
            try {
                method.invoke(null);
            } catch (InvocationTargetException e) {
                same("no exception", e.getCause().toString());
            }
            if (parts == before) {
                same("a part in " + method.getName(), "none");
            }
        }
        end();
    }

    private static void end() {
        System.out.println(wrong == 0 ? parts + " parts: all answers are as due" : wrong + " answers are not as due");
        if (wrong != 0) {
            System.exit(1);
        }
    }

    static int num(int n) {
        return 2 * n;
    }

    static int var(int x) {
        return 2 * x + 1;
    }

    /** Just outside low..high, far outside, and outside by what a cut to fewer bits would take away. */
    static int[] outside(int low, int high) {
        return new int[] {low - 1, high + 1, low - 256, low + 256, low + 65536, MIN, MIN + 1, MAX - 1, MAX};
    }

    static ForwardRuleEngine withRule(int salience, int... positiveKinds) {
        ForwardRuleEngine e = new ForwardRuleEngine();
        begin(e, salience, positiveKinds);
        return e;
    }

    static void begin(ForwardRuleEngine e, int salience, int... positiveKinds) {
        e.rule(salience);
        for (int kind : positiveKinds) {
            e.condition(kind, false);
        }
    }

    static void finishedRule(ForwardRuleEngine e, int salience, int... positiveKinds) {
        begin(e, salience, positiveKinds);
        e.finish();
    }

    /** A rule that a fact of kind 0 meets as long as there is none of kind 1, and such a fact, number 1. */
    static ForwardRuleEngine guarded() {
        ForwardRuleEngine e = withRule(0, 0);
        e.condition(1, true);
        e.act(PRINT, num(1));
        e.finish();
        e.add(0, 0, 0, 0);
        return e;
    }

    static void addFacts(ForwardRuleEngine e, int... kinds) {
        for (int kind : kinds) {
            e.add(kind, 0, 0, 0);
        }
    }

    /** The facts that the instantiation at place k gives, as the digits of one number; the rule stands before them. */
    static int at(ForwardRuleEngine e, int k) {
        return e.ruleAt(k) * 1000 + e.factAt(k, 0) * 100 + e.factAt(k, 1) * 10 + e.factAt(k, 2);
    }

    /** The first places of the order, in the form of at(). */
    static void order(ForwardRuleEngine e, int... want) {
        for (int k = 0; k < want.length; k++) {
            due(want[k], at(e, k));
        }
    }

    /** All that can be asked without changing anything, in 114 calls. */
    static String view(ForwardRuleEngine e) {
        StringBuilder s = new StringBuilder("agenda " + e.agenda() + " facts " + e.facts() + " printed");
        for (int k = -1; k <= 15; k++) {
            s.append(' ').append(e.printed(k));
        }
        for (int i = 0; i < 6; i++) {
            s.append(" fact");
            for (int what = 0; what <= 4; what++) {
                s.append(' ').append(e.fact(i, what));
            }
        }
        for (int k = 0; k <= 15; k++) {
            s.append(" rule ").append(e.ruleAt(k));
            for (int j = 0; j <= 2; j++) {
                s.append(' ').append(e.factAt(k, j));
            }
        }
        return s.toString();
    }

    /**
     * Refused calls must leave no trace in what later calls answer: two objects that differ by them alone are asked
     * the same, once for every way to go on.
     */
    static void changesNothing(Consumer<ForwardRuleEngine> before, Consumer<ForwardRuleEngine> refused) {
        List<Function<ForwardRuleEngine, String>> waysOn = List.of(Sheet::finishAndRun, Sheet::addConditions,
                Sheet::addTests, Sheet::addActions, Sheet::addRules);
        for (Function<ForwardRuleEngine, String> goOn : waysOn) {
            ForwardRuleEngine plain = new ForwardRuleEngine();
            before.accept(plain);
            ForwardRuleEngine tried = new ForwardRuleEngine();
            before.accept(tried);
            refused.accept(tried);
            same(goOn.apply(plain), goOn.apply(tried));
        }
    }

    private static String finishAndRun(ForwardRuleEngine e) {
        String s = "finish " + e.finish() + " numbers";
        int[] kinds = {0, 1, 0, 1, 0, 2};
        for (int i = 0; i < kinds.length; i++) {
            s += " " + e.add(kinds[i], i, i % 3, 5 - i);
        }
        s += " " + view(e);
        s += " run " + e.run(1) + " run " + e.run(20);
        return s + " " + view(e);
    }

    private static String addConditions(ForwardRuleEngine e) {
        String s = "conditions";
        for (int i = 0; i < 4; i++) {
            s += " " + e.condition(1, false) + " " + e.condition(3, true);
        }
        return s + " test " + e.test(0, LESS, num(2)) + " " + finishAndRun(e);
    }

    private static String addTests(ForwardRuleEngine e) {
        String s = "tests";
        for (int x = 0; x < 4; x++) {
            s += " " + e.test(0, NE, var(x));
        }
        for (int x = 0; x < 4; x++) {
            s += " " + e.test(1, BIND, x) + " " + e.test(2, LESS, num(4));
        }
        return s + " " + addActions(e);
    }

    private static String addActions(ForwardRuleEngine e) {
        String s = "actions";
        for (int x = 0; x < 4; x++) {
            s += " " + e.act(PRINT, var(x));
        }
        for (int j = 2; j >= 0; j--) {
            s += " " + e.act(DROP, j);
        }
        for (int i = 0; i < 4; i++) {
            s += " " + e.make(1, num(i), num(2), num(3));
        }
        return s + " " + finishAndRun(e);
    }

    /** Rules of 5, 3 and 1 tests, so that the order tells a number of tests that has grown from an even one. */
    private static String addRules(ForwardRuleEngine e) {
        String s = "rules " + e.rule(5) + " " + e.finish();
        for (int tests = 5; tests >= 1; tests -= 2) {
            s += " " + e.rule(0) + " " + e.condition(0, false);
            for (int i = 1; i < tests; i++) {
                s += " " + e.test(0, LESS, num(9));
            }
            s += " " + e.condition(3, true) + " " + e.test(0, EQ, num(9)) + " " + e.finish();
        }
        return s + " " + e.rule(5) + " " + e.condition(0, false) + " " + finishAndRun(e);
    }
}
