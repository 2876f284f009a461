import java.util.ArrayList;
import java.util.Comparator;
import java.util.HashMap;
import java.util.HashSet;
import java.util.List;
import java.util.Map;
import java.util.Set;

/**
 * Long runs of calls, chosen by a fixed sequence of numbers, on the engine and on a second, slow engine written
 * with the Java library straight from the document. Every answer must be the same. The arguments, if there are
 * any, are how many objects to try and where the sequence begins.
 */
public final class ModelTest {
    private static final int OBJECTS = 1000;
    private static final long SEED = 20261115L;
    private static final int CALLS = 512;
    private static final int CALLS_OF_A_FULL_LOOK = 135;

    private record Fact(int number, int kind, int[] fields) { }

    private record Test(int field, int how, int operand) { }

    private record Action(int what, int kind, int[] operands) { }

    private static final class Condition {
        final int kind;
        final boolean negated;
        final List<Test> tests = new ArrayList<>();

        Condition(int kind, boolean negated) {
            this.kind = kind;
            this.negated = negated;
        }
    }

    private static final class Rule {
        final int number;
        final int salience;
        final List<Condition> conditions = new ArrayList<>();
        final List<Action> actions = new ArrayList<>();
        final Set<Integer> bound = new HashSet<>();

        Rule(int number, int salience) {
            this.number = number;
            this.salience = salience;
        }

        int count(boolean negated) {
            return (int) conditions.stream().filter(c -> c.negated == negated).count();
        }

        int tests() {
            return conditions.stream().mapToInt(c -> c.tests.size()).sum();
        }

        boolean knows(int operand) {
            return operand % 2 == 0 || bound.contains(Math.floorDiv(operand, 2));
        }
    }

    /** A rule's number and the numbers of its facts: two of the same are the same instantiation for ever. */
    private record Instantiation(int rule, List<Integer> facts) { }

    private static final class Model {
        final List<Fact> memory = new ArrayList<>();
        final List<Rule> rules = new ArrayList<>();
        final List<Integer> output = new ArrayList<>();
        Rule open = null;
        int made = 0;
        Map<Instantiation, Map<Integer, Integer>> existing = new HashMap<>();
        final Set<Instantiation> marked = new HashSet<>();

        int rule(int salience) {
            int begun = rules.size() + (open == null ? 0 : 1);
            if (open != null || begun == 4 || salience < -9 || salience > 9) {
                return -1;
            }
            open = new Rule(begun, salience);
            return begun;
        }

        boolean condition(int kind, boolean negated) {
            if (open == null || kind < 0 || kind > 3 || !open.actions.isEmpty()
                    || open.count(negated) == (negated ? 2 : 3)) {
                return false;
            }
            return open.conditions.add(new Condition(kind, negated));
        }

        boolean test(int field, int how, int operand) {
            if (open == null || open.conditions.isEmpty() || !open.actions.isEmpty()) {
                return false;
            }
            Condition last = open.conditions.get(open.conditions.size() - 1);
            if (last.tests.size() == 4 || field < 0 || field > 2 || how < 0 || how > 3) {
                return false;
            }
            if (how == 3) {
                if (last.negated || operand < 0 || operand > 3 || !open.bound.add(operand)) {
                    return false;
                }
            } else if (!open.knows(operand)) {
                return false;
            }
            return last.tests.add(new Test(field, how, operand));
        }

        boolean make(int kind, int x, int y, int z) {
            if (open == null || open.count(false) == 0 || open.actions.size() == 4 || kind < 0 || kind > 3
                    || !open.knows(x) || !open.knows(y) || !open.knows(z)) {
                return false;
            }
            return open.actions.add(new Action(3, kind, new int[] {x, y, z}));
        }

        boolean act(int what, int operand) {
            if (open == null || open.count(false) == 0 || open.actions.size() == 4 || what < 0 || what > 2
                    || what == 0 && (operand < 0 || operand >= open.count(false))
                    || what == 1 && !open.knows(operand)) {
                return false;
            }
            return open.actions.add(new Action(what, 0, new int[] {operand}));
        }

        boolean finish() {
            if (open == null || open.count(false) == 0) {
                return false;
            }
            rules.add(open);
            open = null;
            settle();
            return true;
        }

        int add(int kind, int x, int y, int z) {
            if (kind < 0 || kind > 3 || memory.size() == 6) {
                return 0;
            }
            made++;
            memory.add(new Fact(made, kind, new int[] {x, y, z}));
            settle();
            return made;
        }

        boolean remove(int number) {
            boolean gone = memory.removeIf(f -> f.number == number);
            settle();
            return gone;
        }

        int run(int n) {
            int fired = 0;
            boolean halted = false;
            while (n >= 1 && n <= 20 && fired < n && !halted && agenda() > 0) {
                halted = fire(order().get(0));
                fired++;
            }
            return fired;
        }

        boolean fire(Instantiation first) {
            Map<Integer, Integer> values = existing.get(first);
            boolean halted = false;
            marked.add(first);
            for (Action a : rules.get(first.rule).actions) {
                if (a.what == 0) {
                    remove(first.facts.get(a.operands[0]));
                } else if (a.what == 1) {
                    output.add(value(a.operands[0], values));
                } else if (a.what == 2) {
                    halted = true;
                } else {
                    add(a.kind, value(a.operands[0], values), value(a.operands[1], values),
                            value(a.operands[2], values));
                }
            }
            return halted;
        }

        int agenda() {
            return order().size();
        }

        int ruleAt(int k) {
            return k < 0 || k > 15 || k >= agenda() ? -1 : order().get(k).rule;
        }

        int factAt(int k, int j) {
            if (k < 0 || k > 15 || k >= agenda()) {
                return 0;
            }
            List<Integer> given = order().get(k).facts;
            return j < 0 || j >= given.size() ? 0 : given.get(j);
        }

        int facts() {
            return memory.size() + 8 * made;
        }

        int fact(int i, int what) {
            if (i < 0 || i >= memory.size() || what < 0 || what > 4) {
                return -1;
            }
            Fact f = memory.get(i);
            return what == 0 ? f.number : what == 1 ? f.kind : f.fields[what - 2];
        }

        int printed(int k) {
            if (k == -1) {
                return output.size();
            }
            return k < 0 || k > 15 || k >= output.size() ? 0 : output.get(output.size() - 1 - k);
        }

        static int value(int operand, Map<Integer, Integer> values) {
            return operand % 2 == 0 ? operand / 2 : values.get(Math.floorDiv(operand, 2));
        }

        void settle() {
            existing = new HashMap<>();
            for (Rule rule : rules) {
                extend(rule, 0, new ArrayList<>(), new HashMap<>());
            }
            marked.retainAll(existing.keySet());
        }

        void extend(Rule rule, int next, List<Integer> given, Map<Integer, Integer> values) {
            if (next == rule.conditions.size()) {
                existing.put(new Instantiation(rule.number, List.copyOf(given)), Map.copyOf(values));
                return;
            }
            Condition condition = rule.conditions.get(next);
            if (condition.negated) {
                if (memory.stream().allMatch(f -> match(condition, f, values) == null)) {
                    extend(rule, next + 1, given, values);
                }
                return;
            }
            for (Fact f : memory) {
                Map<Integer, Integer> more = match(condition, f, values);
                if (more != null) {
                    List<Integer> longer = new ArrayList<>(given);
                    longer.add(f.number);
                    extend(rule, next + 1, longer, more);
                }
            }
        }

        static Map<Integer, Integer> match(Condition condition, Fact f, Map<Integer, Integer> values) {
            if (f.kind != condition.kind) {
                return null;
            }
            Map<Integer, Integer> more = new HashMap<>(values);
            for (Test t : condition.tests) {
                int field = f.fields[t.field];
                boolean holds = true;
                switch (t.how) {
                    case 0 -> holds = field == value(t.operand, more);
                    case 1 -> holds = field != value(t.operand, more);
                    case 2 -> holds = field < value(t.operand, more);
                    default -> more.put(t.operand, field);
                }
                if (!holds) {
                    return null;
                }
            }
            return more;
        }

        List<Instantiation> order() {
            List<Instantiation> waiting = new ArrayList<>(existing.keySet());
            waiting.removeAll(marked);
            waiting.sort(Comparator
                    .comparing((Instantiation i) -> -rules.get(i.rule).salience)
                    .thenComparing((a, b) -> greaterFirst(descending(a.facts), descending(b.facts)))
                    .thenComparing(i -> -rules.get(i.rule).tests())
                    .thenComparing(Instantiation::rule)
                    .thenComparing((a, b) -> greaterFirst(a.facts, b.facts)));
            return waiting;
        }

        static List<Integer> descending(List<Integer> numbers) {
            List<Integer> sorted = new ArrayList<>(numbers);
            sorted.sort(Comparator.reverseOrder());
            return sorted;
        }

        static int greaterFirst(List<Integer> a, List<Integer> b) {
            for (int i = 0; i < a.size() && i < b.size(); i++) {
                if (!a.get(i).equals(b.get(i))) {
                    return b.get(i) - a.get(i);
                }
            }
            return b.size() - a.size();
        }
    }

    private static long state = 0;
    private static int wrong = 0;
    private static int objects = 0;
    private static int calls = 0;
    private static long firings = 0;
    private static ForwardRuleEngine engine = null;
    private static Model model = null;
    private static final List<String> story = new ArrayList<>();

    private static int below(int bound) {
        state = state * 6364136223846793005L + 1442695040888963407L;
        return (int) ((state >>> 33) % bound);
    }

    /** Mostly from low to high, now and then a little or far outside. */
    private static int near(int low, int high) {
        int dice = below(40);
        if (dice == 0) {
            return low - 1;
        }
        if (dice == 1) {
            return high + 1;
        }
        if (dice == 2) {
            return below(2) == 0 ? Integer.MIN_VALUE + below(3) : Integer.MAX_VALUE - below(3);
        }
        return low + below(high - low + 1);
    }

    private static int value() {
        return below(30) == 0 ? near(-2, 2) : below(3);
    }

    private static int operand() {
        return below(2) == 0 ? 2 * value() : 2 * near(0, 3) + 1;
    }

    private static void same(String call, int got, int want) {
        calls++;
        story.add(call + " = " + got);
        if (got != want) {
            wrong++;
            System.out.println("object " + objects + ", call " + calls + ": due is " + want + " in the last row of");
            story.forEach(row -> System.out.println("  " + row));
        }
    }

    private static int bit(boolean b) {
        return b ? 1 : 0;
    }

    private static void buildCall() {
        switch (below(9)) {
            case 0, 1 -> {
                int kind = near(0, kinds() - 1);
                boolean negated = below(3) == 0;
                same("condition(" + kind + ", " + negated + ")", bit(engine.condition(kind, negated)),
                        bit(model.condition(kind, negated)));
            }
            case 2, 3, 4 -> {
                int field = near(0, 2);
                int how = near(0, 3);
                int operand = how == 3 ? near(0, 3) : operand();
                same("test(" + field + ", " + how + ", " + operand + ")", bit(engine.test(field, how, operand)),
                        bit(model.test(field, how, operand)));
            }
            case 5 -> makeCall();
            case 6 -> actCall();
            case 7 -> same("finish()", bit(engine.finish()), bit(model.finish()));
            default -> {
                int salience = below(4) == 0 ? near(-9, 9) : below(2);
                same("rule(" + salience + ")", engine.rule(salience), model.rule(salience));
            }
        }
    }

    private static void makeCall() {
        if (model.open != null && model.open.conditions.size() < 2 && below(2) == 0) {
            return;
        }
        int kind = near(0, kinds() - 1);
        int x = operand();
        int y = operand();
        int z = operand();
        same("make(" + kind + ", " + x + ", " + y + ", " + z + ")", bit(engine.make(kind, x, y, z)),
                bit(model.make(kind, x, y, z)));
    }

    private static void actCall() {
        if (model.open != null && model.open.conditions.size() < 2 && below(2) == 0) {
            return;
        }
        int what = below(3) > 0 ? below(2) : near(0, 2);
        int operand = what == 0 ? near(0, 2) : operand();
        same("act(" + what + ", " + operand + ")", bit(engine.act(what, operand)), bit(model.act(what, operand)));
    }

    /** Few kinds in one object let many facts meet many conditions. */
    private static int kinds() {
        return objects % 4 + 1;
    }

    private static void factCall() {
        if (below(3) > 0) {
            int kind = near(0, kinds() - 1);
            int x = value();
            int y = value();
            int z = value();
            same("add(" + kind + ", " + x + ", " + y + ", " + z + ")", engine.add(kind, x, y, z),
                    model.add(kind, x, y, z));
        } else {
            int number = below(10) == 0 ? near(0, model.made) : model.made - below(8);
            same("remove(" + number + ")", bit(engine.remove(number)), bit(model.remove(number)));
        }
    }

    private static void runCall() {
        int n = below(2) == 0 ? below(3) + 1 : near(1, 20);
        int fired = engine.run(n);
        firings += fired;
        same("run(" + n + ")", fired, model.run(n));
    }

    private static void look() {
        int k = near(0, 15);
        switch (below(6)) {
            case 0 -> same("agenda()", engine.agenda(), model.agenda());
            case 1 -> same("ruleAt(" + k + ")", engine.ruleAt(k), model.ruleAt(k));
            case 2 -> {
                int j = near(0, 2);
                same("factAt(" + k + ", " + j + ")", engine.factAt(k, j), model.factAt(k, j));
            }
            case 3 -> same("facts()", engine.facts(), model.facts());
            case 4 -> {
                int i = near(0, 5);
                int what = near(0, 4);
                same("fact(" + i + ", " + what + ")", engine.fact(i, what), model.fact(i, what));
            }
            default -> {
                int p = near(-1, 15);
                same("printed(" + p + ")", engine.printed(p), model.printed(p));
            }
        }
    }

    private static void lookAtAll() {
        same("agenda()", engine.agenda(), model.agenda());
        same("facts()", engine.facts(), model.facts());
        for (int k = -1; k <= 16; k++) {
            same("ruleAt(" + k + ")", engine.ruleAt(k), model.ruleAt(k));
            same("printed(" + k + ")", engine.printed(k), model.printed(k));
            for (int j = 0; j < 3; j++) {
                same("factAt(" + k + ", " + j + ")", engine.factAt(k, j), model.factAt(k, j));
            }
        }
        for (int i = 0; i <= 6; i++) {
            for (int what = 0; what < 5; what++) {
                same("fact(" + i + ", " + what + ")", engine.fact(i, what), model.fact(i, what));
            }
        }
    }

    private static void oneObject() {
        engine = new ForwardRuleEngine();
        model = new Model();
        calls = 0;
        story.clear();
        int before = wrong;
        int steps = 0;
        while (calls < CALLS - CALLS_OF_A_FULL_LOOK && wrong == before && steps < 10 * CALLS) {
            steps++;
            boolean settingUp = model.rules.size() < 4 && calls < 120;
            switch (below(10)) {
                case 0, 1, 2, 3 -> {
                    if (settingUp || below(10) == 0) {
                        buildCall();
                    } else {
                        look();
                    }
                }
                case 4, 5 -> factCall();
                case 6 -> {
                    if (!settingUp || below(5) == 0) {
                        runCall();
                    }
                }
                default -> {
                    if (settingUp) {
                        buildCall();
                    } else {
                        look();
                    }
                }
            }
        }
        if (wrong == before) {
            lookAtAll();
        }
    }

    public static void main(String[] args) {
        int wanted = args.length > 0 ? Integer.parseInt(args[0]) : OBJECTS;
        state = args.length > 1 ? Long.parseLong(args[1]) : SEED;
        for (objects = 0; objects < wanted && wrong < 3; objects++) {
            oneObject();
        }
        if (firings < objects) {
            wrong++;
            System.out.println("only " + firings + " firings: the calls no longer try the engine");
        }
        System.out.println(wrong == 0 ? objects + " objects, " + firings + " firings: all answers are as due"
                : wrong + " answers are not as due");
        if (wrong != 0) {
            System.exit(1);
        }
    }
}
