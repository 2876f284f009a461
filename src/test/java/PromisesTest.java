/** What each promise of the document asks, by hand: ordinary inputs, the edges it names, and wrong inputs. */
public final class PromisesTest extends Sheet {
    public static void main(String[] args) throws IllegalAccessException {
        runAll(PromisesTest.class);
    }

    static void newObject() {
        about("promise 1, a new object");
        ForwardRuleEngine e = new ForwardRuleEngine();
        due(0, e.facts());
        due(0, e.agenda());
        due(-1, e.ruleAt(0));
        due(0, e.factAt(0, 0));
        due(-1, e.fact(0, 0));
        due(0, e.printed(-1));
        due(0, e.printed(0));
        due(0, e.run(20));
        no(e.finish());
        no(e.remove(0));
        no(e.remove(1));
        e.add(0, 1, 2, 3);
        begin(e, 0, 0);
        e.finish();
        ForwardRuleEngine other = new ForwardRuleEngine();
        due(0, other.facts());
        due(0, other.rule(0));
        due(1, other.add(0, 0, 0, 0));
        due(0, other.agenda());
    }

    static void rule() {
        about("promise 2, rule");
        ForwardRuleEngine e = new ForwardRuleEngine();
        due(-1, e.rule(-10));
        due(-1, e.rule(10));
        due(-1, e.rule(MIN));
        due(-1, e.rule(MAX));
        no(e.condition(0, false));
        due(0, e.rule(-9));
        due(-1, e.rule(0));
        yes(e.condition(0, false));
        due(-1, e.rule(0));
        yes(e.finish());
        due(-1, e.rule(10));
        due(1, e.rule(9));
        yes(e.condition(0, false));
        yes(e.finish());
        due(2, e.rule(0));
        yes(e.condition(0, false));
        yes(e.finish());
        due(3, e.rule(1));
        due(-1, e.rule(1));
        yes(e.condition(0, false));
        yes(e.finish());
        due(-1, e.rule(1));
        no(e.condition(0, false));
        e.add(0, 0, 0, 0);
        due(4, e.agenda());
        due(1, e.ruleAt(0));
        due(3, e.ruleAt(1));
        due(2, e.ruleAt(2));
        due(0, e.ruleAt(3));
    }

    static void condition() {
        about("promise 3, condition");
        ForwardRuleEngine e = new ForwardRuleEngine();
        no(e.condition(0, false));
        no(e.condition(0, true));
        e.rule(0);
        no(e.condition(-1, false));
        no(e.condition(4, false));
        no(e.condition(-1, true));
        no(e.condition(4, true));
        no(e.test(0, EQ, 0));
        yes(e.condition(3, true));
        yes(e.condition(0, false));
        yes(e.condition(3, false));
        yes(e.condition(2, true));
        no(e.condition(1, true));
        yes(e.condition(0, false));
        no(e.condition(0, false));
        no(e.condition(0, true));
        yes(e.finish());
        no(e.condition(0, false));
        no(e.condition(0, true));
        e.add(0, 0, 0, 0);
        due(0, e.agenda());
        e.add(1, 0, 0, 0);
        due(0, e.agenda());

        about("promise 3, condition after an action");
        e = withRule(0, 0);
        yes(e.act(HALT, 0));
        no(e.condition(0, false));
        no(e.condition(0, true));
        yes(e.finish());
        e.add(0, 0, 0, 0);
        e.add(0, 0, 0, 0);
        due(2, e.agenda());
        due(0, e.factAt(0, 1));

        about("promise 3, limits of one sort leave the other sort free");
        e = withRule(0, 0, 0, 0);
        no(e.condition(0, false));
        yes(e.condition(1, true));
        yes(e.condition(1, true));
        no(e.condition(1, true));
        e = new ForwardRuleEngine();
        e.rule(0);
        yes(e.condition(1, true));
        yes(e.condition(1, true));
        no(e.condition(1, true));
        yes(e.condition(0, false));
        yes(e.condition(0, false));
        yes(e.condition(0, false));
        no(e.condition(0, false));
    }

    static void testRefusals() {
        about("promise 4, test refusals");
        ForwardRuleEngine e = new ForwardRuleEngine();
        no(e.test(0, EQ, num(0)));
        e.rule(0);
        no(e.test(0, EQ, num(0)));
        e.condition(0, false);
        no(e.test(-1, EQ, num(0)));
        no(e.test(3, EQ, num(0)));
        no(e.test(0, -1, num(0)));
        no(e.test(0, 4, num(0)));
        no(e.test(0, BIND, -1));
        no(e.test(0, BIND, 4));
        no(e.test(0, EQ, var(0)));
        no(e.test(0, EQ, var(-1)));
        no(e.test(0, EQ, var(4)));
        no(e.test(0, NE, var(MAX / 2)));
        no(e.test(0, LESS, MIN + 1));
        yes(e.test(0, BIND, 2));
        no(e.test(1, BIND, 2));
        no(e.test(0, EQ, var(1)));
        yes(e.test(0, EQ, var(2)));
        yes(e.test(1, NE, var(2)));
        yes(e.test(2, LESS, var(2)));
        no(e.test(2, EQ, num(0)));
        no(e.test(2, BIND, 0));
        e.condition(0, true);
        no(e.test(0, BIND, 0));
        no(e.test(0, EQ, var(0)));
        yes(e.test(0, EQ, var(2)));
        yes(e.test(0, EQ, MIN));
        e.condition(0, false);
        no(e.test(0, BIND, 2));
        yes(e.test(0, BIND, 0));
        yes(e.test(0, BIND, 1));
        yes(e.test(0, BIND, 3));
        no(e.act(PRINT, var(4)));
        yes(e.act(PRINT, var(3)));
        no(e.test(0, EQ, num(0)));
        no(e.test(0, BIND, 3));
        yes(e.finish());
        no(e.test(0, EQ, num(0)));

        about("promise 4, the variables of one rule are not those of the next");
        begin(e, 0, 0);
        no(e.test(0, EQ, var(2)));
        yes(e.test(0, BIND, 2));
        yes(e.finish());
    }

    private static int matching(int how, int operand, int value) {
        ForwardRuleEngine e = withRule(0, 0);
        e.test(1, how, operand);
        e.finish();
        e.add(0, 99, value, 99);
        return e.agenda();
    }

    static void testComparisons() {
        about("promise 4, comparisons with a number");
        due(1, matching(EQ, num(7), 7));
        due(0, matching(EQ, num(7), 8));
        due(1, matching(EQ, num(-7), -7));
        due(0, matching(NE, num(7), 7));
        due(1, matching(NE, num(7), 99));
        due(1, matching(LESS, num(7), 6));
        due(0, matching(LESS, num(7), 7));
        due(0, matching(LESS, num(7), 8));
        due(1, matching(LESS, num(-3), MIN));
        due(0, matching(LESS, num(-3), MAX));
        due(1, matching(EQ, MIN, MIN / 2));
        due(1, matching(EQ, MAX - 1, MAX / 2));

        about("promise 4, every field is tested as its own");
        ForwardRuleEngine e = withRule(0, 0);
        e.test(0, EQ, num(1));
        e.test(1, EQ, num(2));
        e.test(2, EQ, num(3));
        e.finish();
        e.add(0, 3, 2, 1);
        due(0, e.agenda());
        e.add(0, 1, 2, 0);
        due(0, e.agenda());
        e.add(1, 1, 2, 3);
        due(0, e.agenda());
        e.add(0, 1, 2, 3);
        due(1, e.agenda());

        about("promise 4, a variable within its own condition");
        e = withRule(0, 0);
        e.test(0, BIND, 3);
        e.test(1, EQ, var(3));
        e.test(2, LESS, var(3));
        e.finish();
        e.add(0, 5, 5, 5);
        due(0, e.agenda());
        e.add(0, 5, 4, 4);
        due(0, e.agenda());
        e.add(0, 5, 5, 4);
        due(1, e.agenda());
        due(3, e.factAt(0, 0));
    }

    static void joins() {
        about("promise 4, a variable over several conditions");
        ForwardRuleEngine e = withRule(0, 0);
        e.test(2, BIND, 0);
        e.condition(1, true);
        e.test(0, EQ, var(0));
        e.condition(0, false);
        e.test(0, EQ, var(0));
        e.test(1, BIND, 1);
        e.condition(2, true);
        e.test(0, EQ, var(0));
        e.test(1, EQ, var(1));
        e.act(PRINT, var(0));
        e.act(PRINT, var(1));
        e.finish();
        e.add(0, 1, 10, 2);
        e.add(0, 2, 20, 3);
        due(1, e.agenda());
        due(120, at(e, 0));
        e.add(2, 2, 21, 0);
        e.add(2, 3, 20, 0);
        e.add(1, 3, 0, 0);
        due(1, e.agenda());
        due(6, e.add(2, 2, 20, 0));
        due(0, e.agenda());
        yes(e.remove(6));
        due(7, e.add(1, 2, 9, 9));
        due(0, e.agenda());
        yes(e.remove(7));
        due(1, e.run(9));
        due(20, e.printed(0));
        due(2, e.printed(1));
    }

    static void make() {
        about("promise 5, make refusals");
        ForwardRuleEngine e = new ForwardRuleEngine();
        no(e.make(0, 0, 0, 0));
        e.rule(0);
        no(e.make(0, 0, 0, 0));
        e.condition(1, true);
        no(e.make(0, 0, 0, 0));
        e.condition(0, false);
        e.test(0, BIND, 1);
        e.test(1, BIND, 0);
        no(e.make(-1, 0, 0, 0));
        no(e.make(4, 0, 0, 0));
        no(e.make(1, var(2), 0, 0));
        no(e.make(1, 0, var(2), 0));
        no(e.make(1, 0, 0, var(2)));
        no(e.make(1, var(4), 0, 0));
        no(e.make(1, 0, var(-1), 0));
        no(e.make(1, 0, 0, var(4)));
        yes(e.test(2, EQ, num(3)));
        yes(e.make(3, var(1), num(-5), var(0)));
        yes(e.make(2, num(1), var(1), MIN));
        yes(e.make(1, var(0), num(0), num(0)));
        yes(e.make(0, num(0), num(0), num(0)));
        no(e.make(0, num(0), num(0), num(0)));
        yes(e.finish());
        no(e.make(0, 0, 0, 0));
        about("promise 5, what is made");
        e.add(0, 11, 12, 3);
        due(1, e.run(1));
        due(5 + 8 * 5, e.facts());
        due(2, e.fact(1, 0));
        due(3, e.fact(1, 1));
        due(11, e.fact(1, 2));
        due(-5, e.fact(1, 3));
        due(12, e.fact(1, 4));
        due(2, e.fact(2, 1));
        due(1, e.fact(2, 2));
        due(11, e.fact(2, 3));
        due(MIN / 2, e.fact(2, 4));
        due(1, e.fact(3, 1));
        due(12, e.fact(3, 2));
        due(0, e.fact(4, 1));

        about("promise 5, nothing is made where 6 are there");
        e = withRule(0, 0);
        e.make(1, num(1), num(0), num(0));
        e.act(DROP, 0);
        e.make(1, num(2), num(0), num(0));
        e.finish();
        for (int i = 0; i < 6; i++) {
            e.add(i == 2 ? 0 : 3, 0, 0, 0);
        }
        due(1, e.run(5));
        due(6 + 8 * 7, e.facts());
        due(7, e.fact(5, 0));
        due(2, e.fact(5, 2));
    }

    static void act() {
        about("promise 6, act refusals");
        ForwardRuleEngine e = new ForwardRuleEngine();
        no(e.act(HALT, 0));
        e.rule(0);
        no(e.act(HALT, 0));
        e.condition(1, true);
        no(e.act(HALT, 0));
        no(e.act(PRINT, 0));
        no(e.act(DROP, 0));
        e.condition(0, false);
        e.test(0, BIND, 3);
        no(e.act(-1, 0));
        no(e.act(3, 0));
        no(e.act(DROP, -1));
        no(e.act(DROP, 1));
        no(e.act(PRINT, var(0)));
        no(e.act(PRINT, var(4)));
        no(e.act(PRINT, var(-1)));
        yes(e.condition(0, false));
        no(e.act(DROP, 2));
        yes(e.act(DROP, 1));
        yes(e.act(PRINT, var(3)));
        yes(e.act(PRINT, num(-4)));
        yes(e.act(HALT, var(-77)));
        no(e.act(HALT, 0));
        no(e.act(PRINT, 0));
        yes(e.finish());
        no(e.act(HALT, 0));
        about("promise 6, what is dropped and printed");
        e.add(0, 41, 0, 0);
        e.add(0, 42, 0, 0);
        due(220, at(e, 0));
        due(210, at(e, 1));
        due(1, e.run(9));
        due(-4, e.printed(0));
        due(42, e.printed(1));
        due(1 + 16, e.facts());
        due(41, e.fact(0, 2));

        about("promise 6, a refused HALT does not halt");
        e = withRule(0, 0);
        e.act(PRINT, 0);
        e.act(PRINT, 0);
        e.act(PRINT, 0);
        e.act(PRINT, 0);
        no(e.act(HALT, 0));
        e.finish();
        e.add(0, 0, 0, 0);
        e.add(0, 0, 0, 0);
        due(2, e.run(9));
    }

    static void actionsInOrder() {
        about("promise 6, actions after HALT are done");
        ForwardRuleEngine e = withRule(0, 0);
        e.act(HALT, 0);
        e.act(PRINT, num(1));
        e.act(DROP, 0);
        e.act(PRINT, num(2));
        e.finish();
        e.add(0, 0, 0, 0);
        e.add(0, 0, 0, 0);
        due(1, e.run(20));
        due(2, e.printed(0));
        due(1, e.printed(1));
        due(1 + 16, e.facts());
        due(1, e.fact(0, 0));
        due(1, e.run(20));
        due(4, e.printed(-1));

        about("promise 6, DROP never takes a newer fact for the one that is gone");
        e = withRule(0, 0, 0);
        e.test(0, BIND, 0);
        e.act(DROP, 0);
        e.make(1, var(0), num(0), num(0));
        e.act(DROP, 1);
        e.act(PRINT, var(0));
        e.finish();
        e.add(0, 8, 0, 0);
        due(1, e.run(1));
        due(1 + 16, e.facts());
        due(2, e.fact(0, 0));
        due(8, e.fact(0, 2));
        due(8, e.printed(0));

        about("promise 6, variables keep their values while the facts change");
        e = withRule(0, 0);
        e.test(0, BIND, 0);
        e.act(DROP, 0);
        e.make(0, num(77), num(0), num(0));
        e.act(PRINT, var(0));
        e.make(1, var(0), var(0), var(0));
        e.finish();
        e.add(0, 8, 0, 0);
        due(1, e.run(1));
        due(8, e.printed(0));
        due(77, e.fact(0, 2));
        due(8, e.fact(1, 4));
    }

    static void finish() {
        about("promise 7, finish");
        ForwardRuleEngine e = new ForwardRuleEngine();
        no(e.finish());
        e.add(0, 0, 0, 0);
        e.rule(0);
        no(e.finish());
        yes(e.condition(1, true));
        no(e.finish());
        yes(e.condition(0, false));
        due(0, e.agenda());
        due(0, e.run(5));
        e.add(0, 0, 0, 0);
        due(0, e.agenda());
        yes(e.finish());
        due(2, e.agenda());
        no(e.finish());
        due(1, e.run(1));
        about("promise 7, a rule begun later leaves the marks alone");
        due(1, e.rule(0));
        due(1, e.agenda());
        no(e.finish());
        e.condition(0, false);
        due(1, e.agenda());
        e.add(2, 0, 0, 0);
        due(1, e.agenda());
        yes(e.finish());
        due(3, e.agenda());
        due(3, e.run(20));
        due(0, e.agenda());
    }

    static void add() {
        about("promise 8, add");
        ForwardRuleEngine e = new ForwardRuleEngine();
        due(0, e.add(-1, 0, 0, 0));
        due(0, e.add(4, 0, 0, 0));
        due(0, e.facts());
        for (int i = 1; i <= 6; i++) {
            due(i, e.add(3, i, -i, MIN));
        }
        due(0, e.add(0, 0, 0, 0));
        due(6 + 8 * 6, e.facts());
        yes(e.remove(2));
        due(0, e.add(4, 0, 0, 0));
        due(7, e.add(0, 5, 5, 5));
        due(0, e.add(0, 5, 5, 5));
        due(6 + 8 * 7, e.facts());
        due(7, e.fact(5, 0));
        due(3, e.fact(1, 0));
    }

    static void remove() {
        about("promise 9, remove");
        ForwardRuleEngine e = new ForwardRuleEngine();
        no(e.remove(0));
        e.add(0, 1, 0, 0);
        e.add(0, 2, 0, 0);
        no(e.remove(0));
        no(e.remove(3));
        no(e.remove(-1));
        no(e.remove(MIN));
        due(2 + 16, e.facts());
        yes(e.remove(1));
        no(e.remove(1));
        due(1 + 16, e.facts());
        due(2, e.fact(0, 0));
        yes(e.remove(2));
        due(16, e.facts());
        no(e.remove(2));
        due(3, e.add(0, 0, 0, 0));
        due(1 + 24, e.facts());
    }

    static void run() {
        about("promise 10, run");
        ForwardRuleEngine e = withRule(0, 0, 0);
        e.act(PRINT, num(1));
        e.finish();
        for (int i = 0; i < 6; i++) {
            e.add(0, 0, 0, 0);
        }
        due(36, e.agenda());
        due(0, e.run(0));
        due(0, e.run(-1));
        due(0, e.run(21));
        due(0, e.run(MAX));
        due(0, e.run(MIN));
        due(36, e.agenda());
        due(0, e.printed(-1));
        due(1, e.run(1));
        due(35, e.agenda());
        due(20, e.run(20));
        due(15, e.agenda());
        due(15, e.run(20));
        due(0, e.run(20));
        due(36, e.printed(-1));

        about("promise 10, a run that feeds itself ends at n");
        e = withRule(0, 0);
        e.test(0, BIND, 0);
        e.act(DROP, 0);
        e.make(0, var(0), num(0), num(0));
        e.act(PRINT, var(0));
        e.finish();
        e.add(0, 3, 0, 0);
        due(20, e.run(20));
        due(1 + 8 * 21, e.facts());
        due(20, e.printed(-1));
        due(1, e.agenda());

        about("promise 10, HALT ends only the run it stands in");
        e = withRule(5, 0);
        e.act(HALT, 0);
        e.finish();
        begin(e, 0, 0);
        e.finish();
        e.add(0, 0, 0, 0);
        e.add(0, 0, 0, 0);
        due(1, e.run(20));
        due(1, e.run(20));
        due(2, e.run(20));
    }

    static void marks() {
        about("promise 10, a mark stays while the instantiation exists");
        ForwardRuleEngine e = guarded();
        due(1, e.run(5));
        due(0, e.run(5));
        e.add(2, 0, 0, 0);
        yes(e.remove(2));
        due(0, e.agenda());
        about("promise 10, a mark goes with the instantiation");
        e.add(1, 0, 0, 0);
        due(0, e.agenda());
        yes(e.remove(3));
        due(1, e.agenda());
        due(1, e.run(5));
        due(0, e.agenda());
        about("promise 10, a fact in place of another is a new one");
        yes(e.remove(1));
        e.add(0, 0, 0, 0);
        due(1, e.agenda());
        due(4, e.factAt(0, 0));

        about("promise 10, a mark goes when another rule ends the instantiation");
        e = guarded();
        begin(e, -1, 0);
        e.make(1, num(0), num(0), num(0));
        e.finish();
        begin(e, -2, 1);
        e.act(DROP, 0);
        e.finish();
        due(4, e.run(5));
        due(2, e.printed(-1));
        due(0, e.agenda());

        about("promise 10, a firing that ends its own instantiation takes its mark away");
        e = withRule(0, 0, 1);
        e.condition(2, true);
        e.act(PRINT, num(6));
        e.make(2, num(0), num(0), num(0));
        e.finish();
        e.add(0, 0, 0, 0);
        e.add(1, 0, 0, 0);
        due(1, e.run(5));
        yes(e.remove(3));
        due(1, e.agenda());
        due(1, e.run(5));

        about("promise 10, the mark is there while the actions are done");
        e = withRule(0, 0);
        e.make(0, num(0), num(0), num(0));
        e.finish();
        e.add(0, 0, 0, 0);
        due(5, e.run(5));
        due(1, e.agenda());
        due(6, e.factAt(0, 0));
        due(1, e.run(5));
        due(0, e.agenda());
    }

    static void agenda() {
        about("promise 11, agenda");
        ForwardRuleEngine e = withRule(0, 0, 0, 0);
        e.finish();
        due(0, e.agenda());
        for (int i = 1; i <= 6; i++) {
            e.add(0, 0, 0, 0);
            due(i * i * i, e.agenda());
        }
        for (int i = 1; i < 4; i++) {
            begin(e, 0, 0, 0, 0);
            e.finish();
            due(216 * (i + 1), e.agenda());
        }
        due(20, e.run(20));
        due(844, e.agenda());
        yes(e.remove(1));
        due(480, e.agenda());
        due(-1, e.ruleAt(16));
        due(2, e.ruleAt(15));
    }

    static void orderBySalience() {
        about("promise 12, order by salience");
        ForwardRuleEngine e = withRule(-9, 0);
        e.test(0, BIND, 0);
        e.finish();
        begin(e, 9, 1);
        e.finish();
        begin(e, 0, 0, 0);
        e.finish();
        e.add(1, 0, 0, 0);
        e.add(0, 0, 0, 0);
        due(1100, at(e, 0));
        due(2220, at(e, 1));
        due(200, at(e, 2));
        due(-1000, at(e, 3));
    }

    static void orderByFacts() {
        about("promise 12, order by the facts from the greatest to the least");
        ForwardRuleEngine e = withRule(0, 0);
        e.test(0, BIND, 0);
        e.test(1, BIND, 1);
        e.finish();
        begin(e, 0, 0, 0);
        e.finish();
        begin(e, 0, 1);
        e.finish();
        e.add(0, 0, 0, 0);
        e.add(0, 0, 0, 0);
        e.add(1, 0, 0, 0);
        due(7, e.agenda());
        due(2300, at(e, 0));
        due(1220, at(e, 1));
        due(1210, at(e, 2));
        due(1120, at(e, 3));
        due(200, at(e, 4));
        due(1110, at(e, 5));
        due(100, at(e, 6));

        about("promise 12, order by the third fact and then by the longer list");
        e = withRule(0, 0, 0);
        e.finish();
        begin(e, 0, 0, 0, 0);
        e.finish();
        e.add(0, 0, 0, 0);
        e.add(0, 0, 0, 0);
        due(12, e.agenda());
        due(1222, at(e, 0));
        due(1221, at(e, 1));
        due(1212, at(e, 2));
        due(1122, at(e, 3));
        due(220, at(e, 4));
        due(1211, at(e, 5));
        due(1121, at(e, 6));
        due(1112, at(e, 7));
        due(210, at(e, 8));
        due(120, at(e, 9));
        due(1111, at(e, 10));
        due(110, at(e, 11));
        due(-1000, at(e, 12));
    }

    static void orderByTests() {
        about("promise 12, order by the number of tests, then by the rule");
        ForwardRuleEngine e = withRule(0, 0);
        e.finish();
        begin(e, 0, 0);
        e.test(0, EQ, num(0));
        e.finish();
        begin(e, 0, 0);
        e.test(0, BIND, 0);
        e.condition(1, true);
        e.test(0, EQ, num(0));
        e.finish();
        begin(e, 0, 0);
        e.test(0, BIND, 0);
        e.finish();
        e.add(0, 0, 0, 0);
        due(2, e.ruleAt(0));
        due(1, e.ruleAt(1));
        due(3, e.ruleAt(2));
        due(0, e.ruleAt(3));
        about("promise 12, the rule goes before the facts in the order of the conditions");
        e = withRule(0, 0, 1);
        e.finish();
        begin(e, 0, 1, 0);
        e.finish();
        e.add(0, 0, 0, 0);
        e.add(1, 0, 0, 0);
        due(120, at(e, 0));
        due(1210, at(e, 1));
    }

    static void places() {
        about("promise 12 and 13, places");
        ForwardRuleEngine e = withRule(0, 0, 0, 0);
        e.finish();
        due(-1, e.ruleAt(0));
        for (int i = 0; i < 3; i++) {
            e.add(0, 0, 0, 0);
        }
        due(0, e.ruleAt(0));
        due(0, e.ruleAt(15));
        due(-1, e.ruleAt(16));
        due(-1, e.ruleAt(-1));
        due(-1, e.ruleAt(MIN));
        due(-1, e.ruleAt(MAX));
        due(3, e.factAt(0, 0));
        due(3, e.factAt(0, 2));
        due(0, e.factAt(0, 3));
        due(0, e.factAt(0, -1));
        due(0, e.factAt(0, MAX));
        due(0, e.factAt(0, MIN));
        due(1, e.factAt(15, 0));
        due(2, e.factAt(15, 1));
        due(3, e.factAt(15, 2));
        due(0, e.factAt(16, 0));
        due(0, e.factAt(-1, 0));
        about("promise 13, numbers count and not the age of a slot");
        e = withRule(0, 0, 1);
        e.condition(1, true);
        e.test(0, EQ, num(1));
        e.finish();
        e.add(1, 0, 0, 0);
        e.add(0, 0, 0, 0);
        e.add(0, 0, 0, 0);
        yes(e.remove(1));
        due(0, e.agenda());
        e.add(1, 0, 0, 0);
        due(340, at(e, 0));
        due(240, at(e, 1));
        due(0, e.factAt(0, 2));
        due(0, e.factAt(2, 0));
        due(1, e.run(1));
        due(240, at(e, 0));
        due(-1, e.ruleAt(1));
    }

    static void factsAndFact() {
        about("promise 14, facts");
        ForwardRuleEngine e = new ForwardRuleEngine();
        due(0, e.facts());
        e.add(2, 10, 20, 30);
        due(9, e.facts());
        e.add(1, -1, -2, -3);
        e.add(0, 7, 8, 9);
        due(27, e.facts());
        e.remove(1);
        due(26, e.facts());
        e.add(3, 4, 5, 6);
        due(35, e.facts());

        about("promise 15, fact");
        int[][] there = {{2, 1, -1, -2, -3}, {3, 0, 7, 8, 9}, {4, 3, 4, 5, 6}};
        for (int i = 0; i < 3; i++) {
            for (int what = 0; what < 5; what++) {
                due(there[i][what], e.fact(i, what));
            }
        }
        due(-1, e.fact(0, 5));
        due(-1, e.fact(0, -1));
        due(-1, e.fact(0, MAX));
        due(-1, e.fact(0, MIN));
        due(-1, e.fact(3, 0));
        due(-1, e.fact(3, 1));
        due(-1, e.fact(-1, 0));
        due(-1, e.fact(6, 2));
        due(-1, e.fact(MAX, 2));
        due(-1, e.fact(MIN, 2));
    }

    static void printed() {
        about("promise 16, printed");
        ForwardRuleEngine e = withRule(0, 0);
        e.test(0, BIND, 0);
        e.act(PRINT, var(0));
        e.act(PRINT, num(-8));
        e.act(DROP, 0);
        e.finish();
        due(0, e.printed(0));
        due(0, e.printed(-1));
        e.add(0, 100, 0, 0);
        e.run(1);
        due(-8, e.printed(0));
        due(100, e.printed(1));
        due(0, e.printed(2));
        due(0, e.printed(15));
        due(2, e.printed(-1));
        for (int i = 101; i < 130; i++) {
            e.add(0, i, 0, 0);
            e.run(1);
        }
        due(60, e.printed(-1));
        for (int k = 0; k < 16; k++) {
            due(k % 2 == 0 ? -8 : 129 - k / 2, e.printed(k));
        }
        due(0, e.printed(16));
        due(0, e.printed(17));
        due(0, e.printed(-2));
        due(0, e.printed(MAX));
        due(0, e.printed(MIN));
    }
}
