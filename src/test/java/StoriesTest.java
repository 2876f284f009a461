/** Ordinary use: small rule programs in which several promises meet, worked out by hand. */
public final class StoriesTest extends Sheet {
    public static void main(String[] args) throws IllegalAccessException {
        runAll(StoriesTest.class);
    }

    static void theExampleOfTheReadme() {
        about("the example of README.md");
        ForwardRuleEngine e = new ForwardRuleEngine();
        due(0, e.rule(0));
        yes(e.condition(0, false));
        yes(e.test(0, 3, 0));
        yes(e.condition(1, true));
        yes(e.test(0, 0, 1));
        yes(e.make(1, 1, 0, 0));
        yes(e.act(1, 1));
        yes(e.finish());
        due(1, e.add(0, 5, 0, 0));
        due(1, e.run(20));
        due(5, e.printed(0));
        due(18, e.facts());
    }

    static void sorting() {
        about("the least fact is printed and dropped until there is none");
        ForwardRuleEngine e = withRule(0, 2);
        e.test(1, BIND, 0);
        e.test(2, BIND, 1);
        e.condition(2, true);
        e.test(1, LESS, var(0));
        e.act(PRINT, var(0));
        e.act(PRINT, var(1));
        e.act(DROP, 0);
        e.finish();
        int[] values = {5, -3, 9, MIN, -3, 7};
        for (int i = 0; i < 6; i++) {
            e.add(2, 0, values[i], 100 + i);
        }
        due(1, e.agenda());
        due(4, e.factAt(0, 0));
        due(6, e.run(20));
        due(8 * 6, e.facts());
        int[] sorted = {MIN, 103, -3, 104, -3, 101, 5, 100, 7, 105, 9, 102};
        due(12, e.printed(-1));
        for (int k = 0; k < 12; k++) {
            due(sorted[11 - k], e.printed(k));
        }
    }

    static void reaching() {
        about("from the edges 1-2 and 2-3 follow the paths 1-2, 2-3 and 1-3, each once");
        ForwardRuleEngine e = withRule(0, 0);
        e.test(0, BIND, 0);
        e.test(1, BIND, 1);
        e.condition(1, true);
        e.test(0, EQ, var(0));
        e.test(1, EQ, var(1));
        e.make(1, var(0), var(1), num(1));
        e.finish();
        begin(e, 5, 1);
        e.test(0, BIND, 0);
        e.test(1, BIND, 1);
        e.condition(0, false);
        e.test(0, EQ, var(1));
        e.test(1, BIND, 2);
        e.condition(1, true);
        e.test(0, EQ, var(0));
        e.test(1, EQ, var(2));
        e.make(1, var(0), var(2), num(2));
        e.finish();
        e.add(0, 1, 2, 0);
        e.add(0, 2, 3, 0);
        order(e, 200, 100, -1000);
        due(1, e.run(1));
        order(e, 100, -1000);
        due(1, e.run(1));
        order(e, 1420, -1000);
        due(1, e.run(20));
        due(0, e.agenda());
        due(5 + 8 * 5, e.facts());
        int[] last = {5, 1, 1, 3, 2};
        for (int what = 0; what <= 4; what++) {
            due(last[what], e.fact(4, what));
        }
    }

    static void joins() {
        about("a variable over several conditions");
        ForwardRuleEngine e = withRule(0, 0);
        e.test(2, BIND, 0);
        e.condition(1, true);
        e.test(0, EQ, var(0));
        e.condition(0, false);
        e.test(0, EQ, var(0));
        e.test(1, BIND, 1);
        e.condition(2, true);
        e.test(0, EQ, var(0));
        e.test(1, EQ, var(1));
        e.act(PRINT, var(0));
        e.act(PRINT, var(1));
        e.finish();
        e.add(0, 1, 10, 2);
        e.add(0, 2, 20, 3);
        due(1, e.agenda());
        order(e, 120);
        e.add(2, 2, 21, 0);
        e.add(2, 3, 20, 0);
        e.add(1, 3, 0, 0);
        due(1, e.agenda());
        due(6, e.add(2, 2, 20, 0));
        due(0, e.agenda());
        yes(e.remove(6));
        due(7, e.add(1, 2, 9, 9));
        due(0, e.agenda());
        yes(e.remove(7));
        due(1, e.run(9));
        due(20, e.printed(0));
        due(2, e.printed(1));
    }

    static void theWholeOrderOfThreeRules() {
        about("the whole order of rules with one and two conditions");
        ForwardRuleEngine e = withRule(0, 0);
        e.test(0, BIND, 0);
        e.test(1, BIND, 1);
        e.finish();
        finishedRule(e, 0, 0, 0);
        finishedRule(e, 0, 1);
        addFacts(e, 0, 0, 1);
        due(7, e.agenda());
        order(e, 2300, 1220, 1210, 1120, 200, 1110, 100, -1000);
    }

    static void theWholeOrderOfTwoRules() {
        about("the whole order of rules with two and three conditions");
        ForwardRuleEngine e = new ForwardRuleEngine();
        finishedRule(e, 0, 0, 0);
        finishedRule(e, 0, 0, 0, 0);
        addFacts(e, 0, 0);
        due(12, e.agenda());
        order(e, 1222, 1221, 1212, 1122, 220, 1211, 1121, 1112, 210, 120, 1111, 110, -1000);
    }

    static void fourFullRules() {
        about("four rules of three conditions over six facts, one of which goes when twenty have fired");
        ForwardRuleEngine e = new ForwardRuleEngine();
        for (int i = 0; i < 4; i++) {
            finishedRule(e, 0, 0, 0, 0);
        }
        addFacts(e, 0, 0, 0, 0, 0, 0);
        due(864, e.agenda());
        due(20, e.run(20));
        due(844, e.agenda());
        yes(e.remove(1));
        due(480, e.agenda());
        due(2, e.ruleAt(15));
    }
}
