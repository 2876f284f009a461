import java.util.List;
import java.util.function.Consumer;

/** The sentences of the promises 2 to 7, the calls that build rules, that name a boundary case: a test for each. */
public final class RuleCallsTest extends Sheet {
    public static void main(String[] args) throws IllegalAccessException {
        runAll(RuleCallsTest.class);
    }

    /** Rule 0 of kind 0 under construction, with two tests and the variables 0 and 1. */
    private static void twoTests(ForwardRuleEngine e) {
        begin(e, 0, 0);
        e.test(0, BIND, 0);
        e.test(1, BIND, 1);
    }

    /** Rule 0 finished, and facts that wait for it, one of them marked. */
    private static void finished(ForwardRuleEngine e) {
        twoTests(e);
        e.act(PRINT, var(0));
        e.make(1, var(1), num(0), num(0));
        e.finish();
        addFacts(e, 0, 0);
        e.run(1);
    }

    /** A rule under construction that has bound the variables 0 and 3. */
    private static void variablesAtTheEnds(ForwardRuleEngine e) {
        begin(e, 0, 0, 1);
        e.test(0, BIND, 0);
        e.test(1, BIND, 3);
    }

    private static void negatedOnly(ForwardRuleEngine e) {
        e.rule(0);
        e.condition(3, true);
    }

    private static void withoutAPositiveCondition(Consumer<ForwardRuleEngine> refused) {
        changesNothing(e -> e.rule(0), refused);
        changesNothing(RuleCallsTest::negatedOnly, refused);
        changesNothing(e -> {
            finished(e);
            negatedOnly(e);
            e.condition(3, true);
        }, refused);
    }

    // Promise 2: rule

    static void p2BeginsARule() {
        about("promise 2: Begins a rule, which is then under construction");
        ForwardRuleEngine e = new ForwardRuleEngine();
        no(e.condition(0, false));
        due(0, e.rule(0));
        yes(e.condition(0, false));
        due(0, e.agenda());
        addFacts(e, 0);
        due(0, e.agenda());
    }

    static void p2AnswersItsNumber() {
        about("promise 2: Answers its number");
        ForwardRuleEngine e = new ForwardRuleEngine();
        int[] saliences = {-9, 9, 0, -1};
        for (int number = 0; number <= 3; number++) {
            due(number, e.rule(saliences[number]));
            e.condition(0, false);
            yes(e.finish());
        }
    }

    static void p2WhileOneIsUnderConstruction() {
        about("promise 2: -1, changing nothing, if a rule is under construction");
        Consumer<ForwardRuleEngine> refused = e -> {
            due(-1, e.rule(7));
            due(-1, e.rule(-7));
            due(-1, e.rule(0));
        };
        changesNothing(e -> e.rule(0), refused);
        changesNothing(RuleCallsTest::negatedOnly, refused);
        changesNothing(RuleCallsTest::twoTests, refused);
        changesNothing(e -> {
            finished(e);
            twoTests(e);
            e.act(HALT, 0);
        }, refused);
    }

    static void p2TheSalienceUnderConstructionStays() {
        about("promise 2: -1, changing nothing, if a rule is under construction: its salience stays");
        ForwardRuleEngine e = new ForwardRuleEngine();
        finishedRule(e, 1, 0);
        begin(e, 0, 0);
        due(-1, e.rule(2));
        yes(e.finish());
        begin(e, 2, 0);
        due(-1, e.rule(0));
        yes(e.finish());
        addFacts(e, 0);
        order(e, 2100, 100, 1100, -1000);
    }

    private static void fourRules(ForwardRuleEngine e) {
        finished(e);
        finishedRule(e, 1, 0);
        finishedRule(e, 0, 0, 1);
        finishedRule(e, -1, 1);
    }

    static void p2WhereThereAreFour() {
        about("promise 2: -1, changing nothing, if .. there are 4");
        changesNothing(RuleCallsTest::fourRules, e -> {
            due(-1, e.rule(0));
            due(-1, e.rule(9));
            no(e.condition(0, false));
            no(e.finish());
        });
        ForwardRuleEngine e = new ForwardRuleEngine();
        for (int i = 0; i < 3; i++) {
            finishedRule(e, 0, 0);
        }
        due(3, e.rule(0));
        due(-1, e.rule(0));
    }

    static void p2SalienceOutside() {
        about("promise 2: -1, changing nothing, if .. salience is outside -9..9");
        Consumer<ForwardRuleEngine> refused = e -> {
            for (int salience : outside(-9, 9)) {
                due(-1, e.rule(salience));
            }
            no(e.condition(0, false));
        };
        changesNothing(e -> { }, refused);
        changesNothing(RuleCallsTest::finished, refused);
        due(0, new ForwardRuleEngine().rule(-9));
        due(0, new ForwardRuleEngine().rule(9));
    }

    // Promise 3: condition

    private static void noCondition(ForwardRuleEngine e) {
        no(e.condition(0, false));
        no(e.condition(1, false));
        no(e.condition(0, true));
        no(e.condition(2, true));
    }

    static void p3AddsACondition() {
        about("promise 3: Adds a condition to the rule under construction");
        for (int kind = 0; kind <= 3; kind++) {
            ForwardRuleEngine e = new ForwardRuleEngine();
            e.rule(0);
            yes(e.condition(kind, false));
            yes(e.condition((kind + 1) % 4, true));
            yes(e.finish());
            addFacts(e, kind);
            due(1, e.agenda());
            addFacts(e, (kind + 1) % 4);
            due(0, e.agenda());
        }
    }

    static void p3WithoutARule() {
        about("promise 3: False, changing nothing, if there is none");
        changesNothing(e -> { }, RuleCallsTest::noCondition);
        changesNothing(RuleCallsTest::finished, RuleCallsTest::noCondition);
        changesNothing(RuleCallsTest::fourRules, RuleCallsTest::noCondition);
    }

    static void p3KindOutside() {
        about("promise 3: False, changing nothing, if .. kind is outside 0..3");
        Consumer<ForwardRuleEngine> refused = e -> {
            for (int kind : outside(0, 3)) {
                no(e.condition(kind, false));
                no(e.condition(kind, true));
            }
        };
        changesNothing(e -> e.rule(0), refused);
        changesNothing(RuleCallsTest::twoTests, refused);
        changesNothing(RuleCallsTest::negatedOnly, refused);
    }

    static void p3AfterAnAction() {
        about("promise 3: False, changing nothing, if .. it has an action already");
        List<Consumer<ForwardRuleEngine>> actions = List.of(e -> e.act(DROP, 0), e -> e.act(PRINT, var(0)),
                e -> e.act(HALT, 0), e -> e.make(1, num(0), num(0), num(0)));
        for (Consumer<ForwardRuleEngine> action : actions) {
            changesNothing(e -> {
                twoTests(e);
                action.accept(e);
            }, RuleCallsTest::noCondition);
        }
    }

    static void p3ThreePositiveAlready() {
        about("promise 3: False, changing nothing, if .. it has 3 positive .. ones already and this is one more");
        Consumer<ForwardRuleEngine> refused = e -> {
            no(e.condition(0, false));
            no(e.condition(1, false));
        };
        changesNothing(e -> begin(e, 0, 0, 1, 0), refused);
        changesNothing(e -> {
            e.rule(0);
            e.condition(3, true);
            e.condition(0, false);
            e.condition(0, false);
            e.condition(1, false);
            e.condition(3, true);
        }, refused);
        ForwardRuleEngine e = withRule(0, 0, 1);
        yes(e.condition(0, false));
        no(e.condition(0, false));
        yes(e.condition(3, true));
        yes(e.condition(3, true));
        no(e.condition(0, false));
        yes(e.finish());
        negatedOnly(e);
        yes(e.condition(3, true));
        yes(e.condition(0, false));
        yes(e.condition(0, false));
        yes(e.condition(0, false));
        no(e.condition(0, false));
    }

    static void p3TwoNegatedAlready() {
        about("promise 3: False, changing nothing, if .. it has .. (2 negated) ones already and this is one more");
        Consumer<ForwardRuleEngine> refused = e -> {
            no(e.condition(0, true));
            no(e.condition(1, true));
        };
        changesNothing(e -> {
            negatedOnly(e);
            e.condition(3, true);
        }, refused);
        changesNothing(e -> {
            begin(e, 0, 0, 1);
            e.condition(3, true);
            e.condition(3, true);
        }, refused);
        changesNothing(e -> {
            negatedOnly(e);
            e.condition(3, true);
            e.condition(2, false);
        }, refused);
        ForwardRuleEngine e = new ForwardRuleEngine();
        negatedOnly(e);
        yes(e.condition(3, true));
        no(e.condition(3, true));
        yes(e.condition(0, false));
        yes(e.condition(0, false));
        yes(e.condition(0, false));
    }

    // Promise 4: test

    private static void noTest(ForwardRuleEngine e) {
        no(e.test(0, EQ, num(0)));
        no(e.test(1, NE, num(0)));
        no(e.test(2, LESS, num(0)));
        no(e.test(0, BIND, 3));
        no(e.test(2, BIND, 2));
    }

    static void p4OfTheConditionAddedLast() {
        about("promise 4: Adds a test of field to the condition added last");
        ForwardRuleEngine e = withRule(0, 0, 0);
        e.test(0, EQ, num(1));
        e.condition(1, true);
        e.test(0, EQ, num(2));
        e.finish();
        e.add(0, 5, 0, 0);
        e.add(0, 1, 0, 0);
        order(e, 220, 120, -1000);
        e.add(1, 1, 0, 0);
        due(2, e.agenda());
        e.add(1, 2, 0, 0);
        due(0, e.agenda());
    }

    /** How many of the facts whose field is -1, 0, 1, the least and the greatest int pass the test. */
    private static int passing(int field, int how, int operand) {
        ForwardRuleEngine e = withRule(0, 0);
        e.test(field, how, operand);
        e.finish();
        int[] values = {-1, 0, 1, MIN, MAX};
        for (int v : values) {
            e.add(0, field == 0 ? v : 3, field == 1 ? v : 3, field == 2 ? v : 3);
        }
        int sum = 0;
        for (int k = 0; k < e.agenda(); k++) {
            sum += 1 << e.factAt(k, 0) - 1;
        }
        return sum;
    }

    static void p4Equal() {
        about("promise 4: how 0: equal to the operand");
        for (int field = 0; field <= 2; field++) {
            due(0b00001, passing(field, EQ, num(-1)));
            due(0b00010, passing(field, EQ, num(0)));
            due(0b00100, passing(field, EQ, num(1)));
            due(0b00000, passing(field, EQ, num(2)));
        }
    }

    static void p4Different() {
        about("promise 4: 1: different");
        for (int field = 0; field <= 2; field++) {
            due(0b11110, passing(field, NE, num(-1)));
            due(0b11101, passing(field, NE, num(0)));
            due(0b11111, passing(field, NE, num(2)));
        }
    }

    static void p4Less() {
        about("promise 4: 2: field less than it");
        for (int field = 0; field <= 2; field++) {
            due(0b01000, passing(field, LESS, num(-1)));
            due(0b01001, passing(field, LESS, num(0)));
            due(0b01011, passing(field, LESS, num(1)));
            due(0b01111, passing(field, LESS, num(2)));
            due(0b01111, passing(field, LESS, MAX - 1));
            due(0b01000, passing(field, LESS, MIN));
        }
    }

    static void p4Bind() {
        about("promise 4: 3: binds variable operand (0..3)");
        for (int x = 0; x <= 3; x++) {
            for (int field = 0; field <= 2; field++) {
                ForwardRuleEngine e = withRule(0, 0);
                yes(e.test(field, BIND, x));
                for (int other = 0; other <= 3; other++) {
                    due(other == x ? 1 : 0, e.act(PRINT, var(other)) ? 1 : 0);
                }
                yes(e.finish());
                e.add(0, 10, 11, 12);
                due(1, e.run(1));
                due(10 + field, e.printed(0));
            }
        }
    }

    static void p4WithoutARule() {
        about("promise 4: False, changing nothing, if no rule is under construction");
        changesNothing(e -> { }, RuleCallsTest::noTest);
        changesNothing(RuleCallsTest::finished, RuleCallsTest::noTest);
        changesNothing(e -> finishedRule(e, 0, 0, 1), RuleCallsTest::noTest);
    }

    static void p4WithoutACondition() {
        about("promise 4: False, changing nothing, if .. it has no condition");
        changesNothing(e -> e.rule(0), RuleCallsTest::noTest);
        changesNothing(e -> {
            finished(e);
            e.rule(0);
        }, RuleCallsTest::noTest);
        ForwardRuleEngine e = new ForwardRuleEngine();
        e.rule(0);
        noTest(e);
        e.condition(0, false);
        for (int i = 0; i < 4; i++) {
            yes(e.test(0, BIND, i));
        }
    }

    static void p4WithoutAConditionNoTestIsCounted() {
        about("promise 4: False, changing nothing, if .. it has no condition: the order counts no test");
        ForwardRuleEngine e = new ForwardRuleEngine();
        e.rule(0);
        noTest(e);
        yes(e.condition(0, false));
        yes(e.finish());
        begin(e, 0, 0);
        yes(e.test(0, EQ, num(0)));
        yes(e.finish());
        addFacts(e, 0);
        order(e, 1100, 100, -1000);
    }

    static void p4AfterAnAction() {
        about("promise 4: False, changing nothing, if .. it .. has an action");
        changesNothing(e -> {
            twoTests(e);
            e.act(PRINT, var(0));
        }, RuleCallsTest::noTest);
        changesNothing(e -> {
            begin(e, 0, 0, 1);
            e.make(1, num(0), num(0), num(0));
        }, RuleCallsTest::noTest);
        changesNothing(e -> {
            begin(e, 0, 0);
            e.act(HALT, 0);
        }, RuleCallsTest::noTest);
    }

    private static void fourTests(ForwardRuleEngine e) {
        twoTests(e);
        e.test(2, LESS, num(9));
        e.test(2, LESS, num(3));
    }

    static void p4FourTestsAlready() {
        about("promise 4: False, changing nothing, if .. the condition has 4 tests");
        changesNothing(RuleCallsTest::fourTests, RuleCallsTest::noTest);
        ForwardRuleEngine e = new ForwardRuleEngine();
        fourTests(e);
        noTest(e);
        e.condition(1, true);
        for (int i = 0; i < 4; i++) {
            yes(e.test(0, EQ, num(i)));
        }
        noTest(e);
        e.condition(1, false);
        yes(e.test(0, BIND, 2));
        yes(e.test(0, BIND, 3));
    }

    static void p4FieldOutside() {
        about("promise 4: False, changing nothing, if .. field is outside 0..2");
        changesNothing(RuleCallsTest::twoTests, e -> {
            for (int field : outside(0, 2)) {
                no(e.test(field, EQ, num(0)));
                no(e.test(field, NE, var(0)));
                no(e.test(field, LESS, num(0)));
                no(e.test(field, BIND, 2));
            }
        });
    }

    static void p4HowOutside() {
        about("promise 4: False, changing nothing, if .. how outside 0..3");
        changesNothing(RuleCallsTest::twoTests, e -> {
            for (int how : outside(0, 3)) {
                no(e.test(0, how, num(0)));
                no(e.test(0, how, var(0)));
                no(e.test(0, how, 2));
            }
        });
    }

    static void p4BindInANegatedCondition() {
        about("promise 4: for how 3: the condition is negated");
        Consumer<ForwardRuleEngine> refused = e -> {
            for (int x = 0; x <= 3; x++) {
                no(e.test(0, BIND, x));
            }
        };
        changesNothing(RuleCallsTest::negatedOnly, refused);
        changesNothing(e -> {
            twoTests(e);
            e.condition(1, true);
        }, refused);
    }

    static void p4BindOutside() {
        about("promise 4: for how 3: .. operand is outside 0..3");
        changesNothing(RuleCallsTest::twoTests, e -> {
            for (int x : outside(0, 3)) {
                no(e.test(0, BIND, x));
            }
        });
    }

    static void p4BoundAlready() {
        about("promise 4: for how 3: .. the rule has bound that variable already");
        Consumer<ForwardRuleEngine> refused = e -> {
            for (int field = 0; field <= 2; field++) {
                no(e.test(field, BIND, 0));
                no(e.test(field, BIND, 1));
            }
        };
        changesNothing(RuleCallsTest::twoTests, refused);
        changesNothing(e -> {
            twoTests(e);
            e.condition(1, false);
        }, refused);
        ForwardRuleEngine e = withRule(0, 0);
        yes(e.test(0, BIND, 3));
        no(e.test(1, BIND, 3));
        e.condition(0, false);
        no(e.test(2, BIND, 3));
        yes(e.act(PRINT, var(3)));
        e.finish();
        e.add(0, 10, 11, 12);
        e.run(1);
        due(10, e.printed(0));
    }

    static void p4VariableOutside() {
        about("promise 4: for the others: the operand is a variable outside 0..3");
        Consumer<ForwardRuleEngine> refused = e -> {
            int[] operands = {var(-1), var(4), var(-4), var(256), MIN + 1, MAX};
            for (int operand : operands) {
                no(e.test(0, EQ, operand));
                no(e.test(1, NE, operand));
                no(e.test(2, LESS, operand));
            }
        };
        changesNothing(RuleCallsTest::twoTests, refused);
        changesNothing(RuleCallsTest::negatedOnly, refused);
        changesNothing(RuleCallsTest::variablesAtTheEnds, refused);
    }

    static void p4VariableNotBoundYet() {
        about("promise 4: for the others: the operand is a variable .. that the rule has not bound yet");
        Consumer<ForwardRuleEngine> refused = e -> {
            for (int x = 2; x <= 3; x++) {
                no(e.test(0, EQ, var(x)));
                no(e.test(1, NE, var(x)));
                no(e.test(2, LESS, var(x)));
            }
        };
        changesNothing(RuleCallsTest::twoTests, refused);
        changesNothing(RuleCallsTest::negatedOnly, refused);
        changesNothing(e -> {
            twoTests(e);
            e.condition(2, true);
        }, refused);
        ForwardRuleEngine e = withRule(0, 0);
        no(e.test(0, EQ, var(2)));
        yes(e.test(0, BIND, 2));
        yes(e.test(0, EQ, var(2)));
        yes(e.finish());
        begin(e, 0, 0);
        no(e.test(0, EQ, var(2)));
    }

    // Promise 5: make

    private static void noMake(ForwardRuleEngine e) {
        for (int kind = 0; kind <= 3; kind++) {
            no(e.make(kind, num(1), num(2), num(3)));
        }
    }

    static void p5AddsTheAction() {
        about("promise 5: Adds the action MAKE of a fact of a kind with three operands");
        for (int kind = 0; kind <= 3; kind++) {
            ForwardRuleEngine e = new ForwardRuleEngine();
            twoTests(e);
            yes(e.make(kind, var(1), MIN, var(0)));
            yes(e.make(3 - kind, MAX - 1, var(0), num(-1)));
            yes(e.finish());
            e.add(0, 5, 6, 7);
            due(1, e.run(1));
            int[][] made = {{2, kind, 6, -1073741824, 5}, {3, 3 - kind, 1073741823, 5, -1}};
            for (int what = 0; what <= 4; what++) {
                due(made[0][what], e.fact(1, what));
                due(made[1][what], e.fact(2, what));
            }
        }
    }

    static void p5WithoutARule() {
        about("promise 5: False, changing nothing, if no rule is under construction");
        changesNothing(e -> { }, RuleCallsTest::noMake);
        changesNothing(RuleCallsTest::finished, RuleCallsTest::noMake);
    }

    static void p5WithoutAPositiveCondition() {
        about("promise 5: False, changing nothing, if .. it has no positive condition");
        withoutAPositiveCondition(RuleCallsTest::noMake);
    }

    private static void fourPrints(ForwardRuleEngine e) {
        twoTests(e);
        for (int i = 1; i <= 4; i++) {
            e.act(PRINT, num(i));
        }
    }

    private static void fourMakes(ForwardRuleEngine e) {
        begin(e, 0, 2);
        for (int i = 1; i <= 4; i++) {
            e.make(3, num(i), num(0), num(0));
        }
    }

    static void p5FourActionsAlready() {
        about("promise 5: False, changing nothing, if .. it has .. 4 actions");
        changesNothing(RuleCallsTest::fourPrints, RuleCallsTest::noMake);
        changesNothing(RuleCallsTest::fourMakes, RuleCallsTest::noMake);
        ForwardRuleEngine e = withRule(0, 0);
        for (int i = 0; i < 4; i++) {
            yes(e.make(1, num(0), num(0), num(0)));
        }
        noMake(e);
        yes(e.finish());
        begin(e, 0, 0);
        for (int i = 0; i < 4; i++) {
            yes(e.make(1, num(0), num(0), num(0)));
        }
    }

    static void p5KindOutside() {
        about("promise 5: False, changing nothing, if .. kind is outside 0..3");
        changesNothing(RuleCallsTest::twoTests, e -> {
            for (int kind : outside(0, 3)) {
                no(e.make(kind, num(0), var(0), var(1)));
            }
        });
    }

    private static void noMakeWith(ForwardRuleEngine e, int... operands) {
        for (int operand : operands) {
            no(e.make(1, operand, num(0), var(0)));
            no(e.make(1, num(0), operand, var(0)));
            no(e.make(1, num(0), var(0), operand));
            no(e.make(1, operand, operand, operand));
        }
    }

    static void p5VariableOutside() {
        about("promise 5: False, changing nothing, if .. an operand is a variable outside 0..3");
        changesNothing(RuleCallsTest::twoTests,
                e -> noMakeWith(e, var(-1), var(4), var(-4), var(256), MIN + 1, MAX));
        changesNothing(RuleCallsTest::variablesAtTheEnds, e -> noMakeWith(e, var(-1), var(4)));
    }

    static void p5VariableNotBound() {
        about("promise 5: False, changing nothing, if .. an operand is a variable .. not bound");
        changesNothing(RuleCallsTest::twoTests, e -> noMakeWith(e, var(2), var(3)));
        changesNothing(e -> {
            finished(e);
            begin(e, 0, 1);
        }, e -> noMakeWith(e, var(0), var(1)));
    }

    // Promise 6: act

    private static void noAct(ForwardRuleEngine e) {
        no(e.act(DROP, 0));
        no(e.act(PRINT, num(5)));
        no(e.act(HALT, 0));
    }

    static void p6Drop() {
        about("promise 6: what 0: DROP of the fact of positive condition operand (0 the first)");
        for (int j = 0; j <= 2; j++) {
            ForwardRuleEngine e = withRule(0, 2, 1);
            e.condition(3, true);
            e.condition(0, false);
            yes(e.act(DROP, j));
            yes(e.finish());
            addFacts(e, 0, 1, 2);
            due(1, e.run(20));
            no(e.remove(3 - j));
            due(2 + 8 * 3, e.facts());
        }
    }

    static void p6Print() {
        about("promise 6: 1: PRINT of the operand");
        ForwardRuleEngine e = new ForwardRuleEngine();
        twoTests(e);
        yes(e.act(PRINT, var(1)));
        yes(e.act(PRINT, num(-4)));
        yes(e.act(PRINT, MIN));
        yes(e.act(PRINT, MAX - 1));
        yes(e.finish());
        e.add(0, 5, 6, 7);
        due(1, e.run(1));
        due(1073741823, e.printed(0));
        due(-1073741824, e.printed(1));
        due(-4, e.printed(2));
        due(6, e.printed(3));
    }

    static void p6Halt() {
        about("promise 6: 2: HALT (operand not looked at)");
        int[] operands = {0, 1, -1, 3, 4, 7, 9, var(-1), var(4), MIN, MIN + 1, MAX - 1, MAX};
        for (int operand : operands) {
            ForwardRuleEngine e = withRule(0, 0);
            yes(e.act(HALT, operand));
            yes(e.finish());
            addFacts(e, 0, 0);
            due(1, e.run(20));
            due(1, e.agenda());
            due(2 + 8 * 2, e.facts());
            due(0, e.printed(-1));
        }
    }

    static void p6WithoutARule() {
        about("promise 6: False, changing nothing, if no rule is under construction");
        changesNothing(e -> { }, RuleCallsTest::noAct);
        changesNothing(RuleCallsTest::finished, RuleCallsTest::noAct);
    }

    static void p6WithoutAPositiveCondition() {
        about("promise 6: False, changing nothing, if .. it has no positive condition");
        withoutAPositiveCondition(RuleCallsTest::noAct);
    }

    static void p6FourActionsAlready() {
        about("promise 6: False, changing nothing, if .. it has .. 4 actions");
        changesNothing(RuleCallsTest::fourPrints, RuleCallsTest::noAct);
        changesNothing(RuleCallsTest::fourMakes, RuleCallsTest::noAct);
        ForwardRuleEngine e = withRule(0, 0);
        yes(e.act(DROP, 0));
        yes(e.act(PRINT, num(0)));
        yes(e.make(1, num(0), num(0), num(0)));
        yes(e.act(HALT, 0));
        noAct(e);
    }

    static void p6WhatOutside() {
        about("promise 6: False, changing nothing, if .. what is outside 0..2");
        changesNothing(RuleCallsTest::twoTests, e -> {
            for (int what : outside(0, 2)) {
                no(e.act(what, 0));
                no(e.act(what, var(0)));
            }
        });
    }

    static void p6NoSuchPositiveCondition() {
        about("promise 6: False, changing nothing, if .. there is no such positive condition");
        for (int positives = 1; positives <= 3; positives++) {
            int[] kinds = new int[positives];
            changesNothing(e -> begin(e, 0, kinds), e -> {
                for (int j : outside(0, kinds.length - 1)) {
                    no(e.act(DROP, j));
                }
                no(e.act(DROP, 3));
            });
        }
        changesNothing(e -> {
            negatedOnly(e);
            e.condition(0, false);
            e.condition(3, true);
        }, e -> {
            no(e.act(DROP, 1));
            no(e.act(DROP, 2));
        });
    }

    private static void noPrintOf(ForwardRuleEngine e, int... operands) {
        for (int operand : operands) {
            no(e.act(PRINT, operand));
        }
    }

    static void p6VariableOutside() {
        about("promise 6: False, changing nothing, if .. the operand of PRINT is a variable outside 0..3");
        changesNothing(RuleCallsTest::twoTests,
                e -> noPrintOf(e, var(-1), var(4), var(-4), var(256), MIN + 1, MAX));
        changesNothing(RuleCallsTest::variablesAtTheEnds, e -> noPrintOf(e, var(-1), var(4)));
    }

    static void p6VariableNotBound() {
        about("promise 6: False, changing nothing, if .. the operand of PRINT is a variable .. not bound");
        changesNothing(RuleCallsTest::twoTests, e -> noPrintOf(e, var(2), var(3)));
        changesNothing(e -> {
            finished(e);
            begin(e, 0, 1);
        }, e -> noPrintOf(e, var(0), var(1)));
    }

    static void p6ARefusedHaltDoesNotHalt() {
        about("promise 6: False, changing nothing, if .. it has .. 4 actions: a refused HALT does not halt");
        ForwardRuleEngine e = new ForwardRuleEngine();
        fourPrints(e);
        no(e.act(HALT, 0));
        yes(e.finish());
        no(e.act(HALT, 0));
        addFacts(e, 0, 0);
        due(2, e.run(20));
        due(8, e.printed(-1));
    }

    // Promise 7: finish

    static void p7TakesPartFromNowOn() {
        about("promise 7: The rule under construction is finished and takes part from now on");
        ForwardRuleEngine e = new ForwardRuleEngine();
        addFacts(e, 0, 0);
        begin(e, 0, 0);
        addFacts(e, 0);
        due(0, e.agenda());
        due(0, e.run(20));
        yes(e.finish());
        due(3, e.agenda());
        addFacts(e, 0);
        due(4, e.agenda());
        no(e.condition(0, false));
        due(1, e.rule(0));
    }

    static void p7TakesPartWhileTheNextIsBuilt() {
        about("promise 7: The rule .. takes part from now on: also while the next one is under construction");
        ForwardRuleEngine e = new ForwardRuleEngine();
        finishedRule(e, 0, 0);
        finishedRule(e, 0, 0);
        e.rule(0);
        addFacts(e, 0);
        order(e, 100, 1100, -1000);
        e.condition(0, false);
        addFacts(e, 0);
        order(e, 200, 1200, 100, 1100, -1000);
        yes(e.remove(1));
        order(e, 200, 1200, -1000);
        due(2, e.run(20));
        due(0, e.agenda());
        yes(e.finish());
        order(e, 2200, -1000);
    }

    static void p7OtherMarksStay() {
        about("promise 7: The rule .. takes part from now on: the marks of other rules stay");
        ForwardRuleEngine e = new ForwardRuleEngine();
        finishedRule(e, 0, 0);
        addFacts(e, 0);
        due(1, e.run(20));
        begin(e, 0, 0);
        due(0, e.agenda());
        yes(e.finish());
        due(1, e.agenda());
        due(1, e.ruleAt(0));
    }

    static void p7WithoutARule() {
        about("promise 7: False, changing nothing, if there is none");
        changesNothing(e -> { }, e -> no(e.finish()));
        changesNothing(RuleCallsTest::finished, e -> no(e.finish()));
        changesNothing(RuleCallsTest::fourRules, e -> no(e.finish()));
    }

    static void p7WithoutAPositiveCondition() {
        about("promise 7: False, changing nothing, if .. it has no positive condition");
        withoutAPositiveCondition(e -> no(e.finish()));
        ForwardRuleEngine e = new ForwardRuleEngine();
        negatedOnly(e);
        no(e.finish());
        due(-1, e.rule(0));
        yes(e.condition(0, false));
        yes(e.finish());
    }
}
