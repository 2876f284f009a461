/** The sentences of the document's section "Terms" that name a boundary case, each with a test of its own. */
public final class TermsTest extends Sheet {
    public static void main(String[] args) throws IllegalAccessException {
        runAll(TermsTest.class);
    }

    // FACTS

    static void factNumbersGoOnAndAreNeverUsedAgain() {
        about("FACTS have a number (1, 2, .. in the order in which facts were ever made)");
        ForwardRuleEngine e = withRule(0, 1);
        e.act(DROP, 0);
        e.make(0, num(0), num(0), num(0));
        e.finish();
        due(1, e.add(0, 0, 0, 0));
        due(2, e.add(0, 0, 0, 0));
        yes(e.remove(2));
        due(3, e.add(0, 0, 0, 0));
        yes(e.remove(1));
        due(4, e.add(1, 0, 0, 0));
        due(1, e.run(1));
        due(3, e.fact(0, 0));
        due(5, e.fact(1, 0));
        due(6, e.add(0, 0, 0, 0));
        yes(e.remove(3));
        yes(e.remove(5));
        yes(e.remove(6));
        due(7, e.add(0, 0, 0, 0));
    }

    static void factKinds() {
        about("FACTS have .. a kind 0..3");
        ForwardRuleEngine e = new ForwardRuleEngine();
        for (int kind = 0; kind <= 3; kind++) {
            finishedRule(e, 0, kind);
        }
        for (int kind = 0; kind <= 3; kind++) {
            due(kind + 1, e.add(kind, 7, 7, 7));
            due(kind, e.fact(0, 1));
            due(1, e.agenda());
            due(kind, e.ruleAt(0));
            yes(e.remove(kind + 1));
        }
        for (int kind : outside(0, 3)) {
            due(0, e.add(kind, 7, 7, 7));
        }
    }

    static void factFieldsAreThreeInts() {
        about("FACTS have .. three ints, the fields 0, 1, 2");
        ForwardRuleEngine e = new ForwardRuleEngine();
        e.add(0, MIN, MAX, -1);
        e.add(0, MAX, 0, MIN);
        due(MIN, e.fact(0, 2));
        due(MAX, e.fact(0, 3));
        due(-1, e.fact(0, 4));
        due(MAX, e.fact(1, 2));
        due(0, e.fact(1, 3));
        due(MIN, e.fact(1, 4));
    }

    static void theLeastIntIsLessThanTheGreatest() {
        about("FACTS have .. three ints: the least is less than the greatest");
        due(1, lessThanField(MIN, MAX));
        due(0, lessThanField(MAX, MIN));
        due(0, lessThanField(MAX, MAX));
        due(0, lessThanField(MIN, MIN));
        due(1, lessThanField(MIN, MIN + 1));
        due(1, lessThanField(MAX - 1, MAX));
    }

    private static int lessThanField(int low, int high) {
        ForwardRuleEngine e = withRule(0, 0);
        e.test(2, BIND, 0);
        e.test(0, LESS, var(0));
        e.finish();
        e.add(0, low, 0, high);
        return e.agenda();
    }

    static void atMostSixFactsByAdd() {
        about("At most 6 facts are there: add");
        ForwardRuleEngine e = new ForwardRuleEngine();
        addFacts(e, 0, 1, 2, 3, 0);
        due(5 + 8 * 5, e.facts());
        due(6, e.add(1, 0, 0, 0));
        due(6 + 8 * 6, e.facts());
        due(0, e.add(1, 0, 0, 0));
        due(6 + 8 * 6, e.facts());
        due(-1, e.fact(6, 0));
    }

    static void atMostSixFactsByMake() {
        about("At most 6 facts are there: MAKE");
        ForwardRuleEngine e = withRule(0, 0);
        for (int i = 0; i < 4; i++) {
            e.make(1, num(i), num(0), num(0));
        }
        e.finish();
        addFacts(e, 0, 0, 2);
        due(1, e.run(1));
        due(6 + 8 * 6, e.facts());
        due(2, e.fact(5, 2));
        due(1, e.run(1));
        due(6 + 8 * 6, e.facts());
        due(-1, e.fact(6, 0));
    }

    // RULES

    static void ruleNumbers() {
        about("RULES are numbered 0..3 in the order in which they were begun");
        ForwardRuleEngine e = new ForwardRuleEngine();
        for (int number = 0; number <= 3; number++) {
            due(number, e.rule(0));
            yes(e.condition(3 - number, false));
            yes(e.finish());
        }
        due(-1, e.rule(0));
        for (int number = 0; number <= 3; number++) {
            due(number + 1, e.add(3 - number, 0, 0, 0));
            due(number, e.ruleAt(0));
        }
    }

    static void salienceBounds() {
        about("A rule has a salience -9..9");
        ForwardRuleEngine e = new ForwardRuleEngine();
        finishedRule(e, -9, 0);
        finishedRule(e, 8, 0);
        finishedRule(e, -8, 0);
        finishedRule(e, 9, 0);
        addFacts(e, 0);
        order(e, 3100, 1100, 2100, 100, -1000);
        for (int salience : outside(-9, 9)) {
            due(-1, new ForwardRuleEngine().rule(salience));
        }
    }

    static void oneToThreePositiveConditions() {
        about("A rule has .. 1 to 3 positive .. conditions");
        ForwardRuleEngine e = new ForwardRuleEngine();
        e.rule(0);
        no(e.finish());
        yes(e.condition(0, false));
        yes(e.finish());
        begin(e, 1, 0);
        yes(e.condition(0, false));
        yes(e.condition(0, false));
        no(e.condition(0, false));
        yes(e.finish());
        addFacts(e, 0);
        due(2, e.agenda());
        order(e, 1111, 100);
    }

    static void upToTwoNegatedConditions() {
        about("A rule has .. up to 2 negated conditions");
        ForwardRuleEngine e = withRule(0, 0);
        yes(e.condition(1, true));
        yes(e.condition(2, true));
        no(e.condition(3, true));
        yes(e.finish());
        addFacts(e, 0, 3);
        due(1, e.agenda());
        addFacts(e, 2);
        due(0, e.agenda());
        yes(e.remove(3));
        addFacts(e, 1);
        due(0, e.agenda());
        yes(e.remove(4));
        due(1, e.agenda());
    }

    static void conditionsInSomeOrder() {
        about("A rule has .. positive and .. negated conditions in some order");
        ForwardRuleEngine e = new ForwardRuleEngine();
        e.rule(0);
        yes(e.condition(3, true));
        yes(e.condition(0, false));
        yes(e.condition(2, true));
        yes(e.condition(1, false));
        yes(e.test(0, BIND, 2));
        yes(e.act(PRINT, var(2)));
        yes(e.act(DROP, 1));
        yes(e.finish());
        e.add(0, 10, 0, 0);
        e.add(1, 20, 0, 0);
        order(e, 120);
        addFacts(e, 3);
        due(0, e.agenda());
        yes(e.remove(3));
        addFacts(e, 2);
        due(0, e.agenda());
        yes(e.remove(4));
        due(1, e.run(1));
        due(20, e.printed(0));
        due(1 + 8 * 4, e.facts());
        due(1, e.fact(0, 0));
    }

    static void noActionAtAll() {
        about("A rule has .. up to 4 actions: a rule without any is fired");
        ForwardRuleEngine e = new ForwardRuleEngine();
        finishedRule(e, 0, 0);
        addFacts(e, 0, 0);
        due(2, e.run(20));
        due(0, e.agenda());
        due(2 + 8 * 2, e.facts());
        due(0, e.printed(-1));
    }

    static void fourActions() {
        about("A rule has .. up to 4 actions: all four are done, a fifth is refused");
        ForwardRuleEngine e = withRule(0, 0);
        for (int i = 1; i <= 4; i++) {
            yes(e.act(PRINT, num(i)));
        }
        no(e.act(PRINT, num(5)));
        no(e.make(0, num(5), num(5), num(5)));
        yes(e.finish());
        addFacts(e, 0);
        due(1, e.run(20));
        due(4, e.printed(-1));
        for (int k = 0; k < 4; k++) {
            due(4 - k, e.printed(k));
        }
    }

    static void conditionWithoutTest() {
        about("A condition has a kind and up to 4 tests on fields: without a test any fact of the kind will do");
        ForwardRuleEngine e = withRule(0, 2);
        e.condition(3, true);
        e.finish();
        e.add(2, MIN, 0, MAX);
        e.add(2, 0, 0, 0);
        e.add(1, 0, 0, 0);
        due(2, e.agenda());
        e.add(3, 5, 5, 5);
        due(0, e.agenda());
    }

    static void conditionWithFourTests() {
        about("A condition has a kind and up to 4 tests on fields: each of four counts, a fifth is refused");
        ForwardRuleEngine e = withRule(0, 0);
        yes(e.test(0, NE, num(1)));
        yes(e.test(0, NE, num(2)));
        yes(e.test(0, NE, num(3)));
        yes(e.test(0, NE, num(4)));
        no(e.test(0, NE, num(5)));
        yes(e.finish());
        for (int i = 1; i <= 4; i++) {
            e.add(0, i, 0, 0);
            due(0, e.agenda());
        }
        e.add(0, 5, 0, 0);
        due(1, e.agenda());
    }

    static void theLargestRule() {
        about("RULES: 3 positive and 2 negated conditions with 4 tests each, and 4 actions");
        ForwardRuleEngine e = new ForwardRuleEngine();
        for (int rule = 0; rule < 4; rule++) {
            due(rule, e.rule(0));
            for (int i = 0; i < 5; i++) {
                yes(e.condition(0, i == 1 || i == 3));
                int field = i == 1 || i == 3 ? 1 : 0;
                yes(i == 0 ? e.test(0, BIND, 3) : e.test(field, EQ, var(3)));
                yes(e.test(2, NE, num(90 + i)));
                yes(e.test(2, NE, num(80 + i)));
                yes(e.test(2, NE, num(70 + rule)));
            }
            for (int i = 0; i < 4; i++) {
                yes(e.act(PRINT, i == 3 ? var(3) : num(i)));
            }
            yes(e.finish());
        }
        e.add(0, 5, 0, 71);
        due(3, e.agenda());
        order(e, 111, 2111, 3111);
        due(3, e.run(20));
        due(12, e.printed(-1));
        due(5, e.printed(0));
        e.add(0, 0, 5, 84);
        due(0, e.agenda());
        e.add(0, 5, 0, 90);
        due(0, e.agenda());
        yes(e.remove(2));
        due(3 * 4, e.agenda());
    }

    static void variablesZeroToThree() {
        about("a test compares the field .. with one of the variables 0..3 of the rule");
        for (int x = 0; x <= 3; x++) {
            ForwardRuleEngine e = withRule(0, 0);
            yes(e.test(0, BIND, x));
            yes(e.test(1, EQ, var(x)));
            yes(e.finish());
            e.add(0, 6, 7, 6);
            due(0, e.agenda());
            e.add(0, 6, 6, 7);
            due(1, e.agenda());
        }
        ForwardRuleEngine e = withRule(0, 0);
        e.test(0, BIND, 0);
        no(e.test(1, EQ, var(-1)));
        no(e.test(1, EQ, var(4)));
    }

    static void allFourVariablesAtOnce() {
        about("the variables 0..3 of the rule: each has its own value");
        ForwardRuleEngine e = withRule(0, 0);
        e.test(0, BIND, 3);
        e.test(1, BIND, 2);
        e.test(2, BIND, 1);
        e.condition(1, false);
        e.test(2, BIND, 0);
        for (int x = 0; x <= 3; x++) {
            yes(e.act(PRINT, var(x)));
        }
        e.finish();
        e.add(0, 10, 20, 30);
        e.add(1, 40, 50, 60);
        due(1, e.run(1));
        due(10, e.printed(0));
        due(20, e.printed(1));
        due(30, e.printed(2));
        due(60, e.printed(3));
    }

    static void variablesAreTheRulesOwn() {
        about("the variables 0..3 of the rule: another rule's are others");
        ForwardRuleEngine e = withRule(0, 0);
        e.test(0, BIND, 0);
        e.act(PRINT, var(0));
        e.finish();
        begin(e, 0, 0);
        no(e.test(1, EQ, var(0)));
        no(e.act(PRINT, var(0)));
        yes(e.test(1, BIND, 0));
        yes(e.act(PRINT, var(0)));
        yes(e.finish());
        e.add(0, 11, 22, 33);
        due(2, e.run(20));
        due(22, e.printed(0));
        due(11, e.printed(1));
    }

    // MATCHING

    static void onlyFinishedRulesTakePart() {
        about("An INSTANTIATION of a finished rule");
        ForwardRuleEngine e = withRule(0, 0);
        e.act(PRINT, num(1));
        addFacts(e, 0);
        due(0, e.agenda());
        due(-1, e.ruleAt(0));
        due(0, e.run(20));
        due(0, e.printed(-1));
        yes(e.finish());
        due(1, e.agenda());
        due(1, e.run(20));
    }

    static void theSameFactForSeveralConditions() {
        about("gives each positive condition a fact (the same one perhaps to several)");
        ForwardRuleEngine e = new ForwardRuleEngine();
        finishedRule(e, 0, 1, 1, 1);
        addFacts(e, 1);
        due(1, e.agenda());
        order(e, 111);
        addFacts(e, 1);
        due(8, e.agenda());
    }

    static void everyConditionNeedsAFact() {
        about("gives each positive condition a fact .. of its kind");
        ForwardRuleEngine e = new ForwardRuleEngine();
        finishedRule(e, 0, 0, 1, 2);
        due(0, e.agenda());
        addFacts(e, 0, 1);
        due(0, e.agenda());
        addFacts(e, 3, 0);
        due(0, e.agenda());
        addFacts(e, 2);
        due(2, e.agenda());
        order(e, 425, 125);
    }

    static void allTestsMustHold() {
        about("so that all its tests hold");
        for (int failing = 0; failing < 4; failing++) {
            ForwardRuleEngine e = withRule(0, 0);
            for (int i = 0; i < 4; i++) {
                yes(i == failing ? e.test(2, EQ, num(8)) : e.test(1, EQ, num(9)));
            }
            e.finish();
            e.add(0, 8, 9, 9);
            due(0, e.agenda());
            e.add(0, 8, 9, 8);
            due(1, e.agenda());
            e.add(0, 8, 8, 8);
            due(1, e.agenda());
        }
    }

    static void aVariableHasTheValueOfItsField() {
        about("a variable has the value of the field to which it is bound");
        ForwardRuleEngine e = withRule(0, 0);
        e.test(1, BIND, 1);
        e.condition(1, false);
        e.test(0, BIND, 0);
        e.test(2, EQ, var(1));
        e.condition(0, false);
        e.test(2, EQ, var(0));
        e.finish();
        e.add(0, 1, 2, 3);
        e.add(1, 4, 5, 2);
        due(0, e.agenda());
        e.add(0, 2, 9, 4);
        due(1, e.agenda());
        order(e, 123);
        e.add(1, 3, 5, 3);
        due(1, e.agenda());
        e.add(1, 3, 5, 2);
        due(2, e.agenda());
        order(e, 151);
    }

    static void aNegatedConditionIsMetByAllItsTests() {
        about("for no negated condition is there a fact of its kind for which all its tests hold");
        ForwardRuleEngine e = withRule(0, 0);
        e.test(0, BIND, 0);
        e.condition(1, true);
        e.test(0, EQ, var(0));
        e.test(1, LESS, num(5));
        e.finish();
        e.add(0, 3, 0, 0);
        e.add(1, 3, 5, 0);
        e.add(1, 2, 4, 0);
        e.add(2, 3, 4, 0);
        due(1, e.agenda());
        e.add(1, 3, 4, 0);
        due(0, e.agenda());
    }

    static void eachNegatedConditionCounts() {
        about("for no negated condition is there a fact: neither for the first nor for the second");
        ForwardRuleEngine e = withRule(0, 0);
        e.condition(1, true);
        e.test(0, EQ, num(1));
        e.condition(1, true);
        e.test(0, EQ, num(2));
        e.finish();
        addFacts(e, 0, 1);
        due(1, e.agenda());
        e.add(1, 1, 0, 0);
        due(0, e.agenda());
        yes(e.remove(3));
        e.add(1, 2, 0, 0);
        due(0, e.agenda());
        e.add(1, 1, 0, 0);
        due(0, e.agenda());
        yes(e.remove(4));
        due(0, e.agenda());
        yes(e.remove(5));
        due(1, e.agenda());
    }

    static void aGivenFactMayMeetANegatedCondition() {
        about("for no negated condition is there a fact: one that a positive condition is given counts too");
        ForwardRuleEngine e = withRule(0, 0);
        e.test(0, BIND, 0);
        e.condition(0, true);
        e.test(0, LESS, var(0));
        e.finish();
        e.add(0, 5, 0, 0);
        due(1, e.agenda());
        e.add(0, 4, 0, 0);
        due(1, e.agenda());
        order(e, 200);
        e = withRule(0, 0);
        e.condition(0, true);
        e.finish();
        addFacts(e, 0);
        due(0, e.agenda());
        e = withRule(0, 0, 1);
        e.condition(1, true);
        e.test(0, LESS, num(5));
        e.finish();
        addFacts(e, 0, 1);
        due(0, e.agenda());
        e.add(1, 5, 0, 0);
        due(0, e.agenda());
        yes(e.remove(2));
        due(1, e.agenda());
    }

    static void itExistsWhileItsFactsAreThere() {
        about("It EXISTS as long as that is so (with the facts that it gives still there)");
        ForwardRuleEngine e = new ForwardRuleEngine();
        finishedRule(e, 0, 0, 1);
        addFacts(e, 0, 1, 1);
        due(2, e.agenda());
        yes(e.remove(3));
        due(1, e.agenda());
        order(e, 120);
        yes(e.remove(1));
        due(0, e.agenda());
        addFacts(e, 0);
        due(1, e.agenda());
        order(e, 420);
    }

    // FIRED

    static void firedOnceOnly() {
        about("When an instantiation is fired it is marked");
        ForwardRuleEngine e = guarded();
        due(1, e.agenda());
        due(1, e.run(20));
        due(0, e.agenda());
        due(0, e.run(20));
        due(1, e.printed(-1));
    }

    static void theMarkIsOfOneInstantiation() {
        about("When an instantiation is fired it is marked: no other one is");
        ForwardRuleEngine e = new ForwardRuleEngine();
        finishedRule(e, 1, 0, 0);
        finishedRule(e, 0, 0, 0);
        addFacts(e, 0, 0);
        due(8, e.agenda());
        due(1, e.run(1));
        due(7, e.agenda());
        order(e, 210, 120, 110, 1220, 1210, 1120, 1110, -1000);
        addFacts(e, 0);
        due(17, e.agenda());
        due(3, e.run(3));
        order(e, 310, 130, 210, 120, 110, 1330);
    }

    static void theMarkStaysWhileItExists() {
        about("the mark goes when the instantiation ceases to exist: not before");
        ForwardRuleEngine e = guarded();
        due(1, e.run(20));
        addFacts(e, 2, 3);
        yes(e.remove(2));
        yes(e.remove(3));
        no(e.remove(2));
        due(0, e.add(4, 0, 0, 0));
        finishedRule(e, 0, 2);
        due(0, e.agenda());
        due(0, e.run(20));
    }

    static void theMarkGoesByAFactForANegatedCondition() {
        about("the mark goes when the instantiation ceases to exist: by a fact for a negated condition");
        ForwardRuleEngine e = guarded();
        due(1, e.run(20));
        addFacts(e, 1);
        yes(e.remove(2));
        due(1, e.agenda());
        due(1, e.run(20));
        due(2, e.printed(-1));
    }

    static void theMarkGoesWithAGivenFact() {
        about("the mark goes when the instantiation ceases to exist: by the loss of a fact that it gives");
        ForwardRuleEngine e = guarded();
        due(1, e.run(20));
        yes(e.remove(1));
        e.add(0, 0, 0, 0);
        due(1, e.agenda());
        due(2, e.factAt(0, 0));
        due(1, e.run(20));
    }

    static void theMarkGoesThoughItsOwnFiringEndsIt() {
        about("the mark goes when the instantiation ceases to exist: by its own firing");
        ForwardRuleEngine e = withRule(0, 0);
        e.condition(1, true);
        e.make(1, num(0), num(0), num(0));
        e.finish();
        addFacts(e, 0);
        due(1, e.run(20));
        due(0, e.agenda());
        yes(e.remove(2));
        due(1, e.agenda());
        due(1, e.run(20));
        due(2 + 8 * 3, e.facts());
    }

    static void settledAfterEverySingleChange() {
        about("after every single change it is settled which instantiations exist");
        ForwardRuleEngine e = guarded();
        begin(e, -1, 0);
        e.make(1, num(0), num(0), num(0));
        e.finish();
        begin(e, -2, 1);
        e.act(DROP, 0);
        e.finish();
        due(4, e.run(20));
        due(2, e.printed(-1));
        due(0, e.agenda());
    }

    static void settledWithinAFiring() {
        about("after every single change it is settled: a fact made in the place of a dropped one is another fact");
        ForwardRuleEngine e = new ForwardRuleEngine();
        finishedRule(e, 5, 0);
        begin(e, 0, 0);
        e.test(0, EQ, num(1));
        e.act(DROP, 0);
        e.make(0, num(0), num(0), num(0));
        e.finish();
        e.add(0, 1, 0, 0);
        due(1, e.run(1));
        due(1, e.run(1));
        due(1, e.agenda());
        order(e, 200);
    }

    static void aDropInAFiringTakesMarksAway() {
        about("one that has ceased to exist and exists again later is not marked");
        ForwardRuleEngine e = withRule(9, 0);
        e.condition(1, true);
        e.finish();
        begin(e, 0, 1, 2);
        e.act(DROP, 0);
        e.finish();
        addFacts(e, 0, 2);
        due(1, e.run(20));
        addFacts(e, 1);
        due(1, e.agenda());
        due(2, e.run(20));
        addFacts(e, 1);
        due(1, e.run(1));
        due(1, e.agenda());
        order(e, 100);
    }

    static void endedAndBackWithinOneRun() {
        about("one that has ceased to exist and exists again later is not marked: both by firings of one run");
        ForwardRuleEngine e = withRule(1, 0);
        e.condition(1, true);
        e.make(1, num(0), num(0), num(0));
        e.act(PRINT, num(7));
        e.finish();
        begin(e, 0, 1);
        e.act(DROP, 0);
        e.finish();
        addFacts(e, 0);
        due(20, e.run(20));
        due(10, e.printed(-1));
        due(1 + 8 * 11, e.facts());
        due(1, e.run(1));
        due(11, e.printed(-1));
        due(1, e.agenda());
        due(1, e.ruleAt(0));
        due(12, e.factAt(0, 0));
    }

    static void oneGuardForAnotherInOneFiring() {
        about("one that has ceased to exist and exists again later is not marked: not while another fact ends it");
        ForwardRuleEngine e = guarded();
        due(1, e.run(20));
        begin(e, -1, 1);
        e.test(0, EQ, num(5));
        e.act(DROP, 0);
        e.make(1, num(6), num(0), num(0));
        e.finish();
        e.add(1, 5, 0, 0);
        due(1, e.run(20));
        due(0, e.agenda());
        due(1, e.printed(-1));
        yes(e.remove(3));
        due(1, e.agenda());
        order(e, 100);
        due(1, e.run(20));
        due(2, e.printed(-1));
    }

    // ORDER

    static void theFirstWithoutMarkFires() {
        about("ORDER of the instantiations without mark, the first one fires");
        ForwardRuleEngine e = withRule(0, 0);
        e.test(0, BIND, 0);
        e.act(PRINT, var(0));
        e.finish();
        e.add(0, 10, 0, 0);
        e.add(0, 20, 0, 0);
        e.add(0, 30, 0, 0);
        due(1, e.run(1));
        due(30, e.printed(0));
        order(e, 200, 100, -1000);
        due(1, e.run(1));
        due(20, e.printed(0));
        e.add(0, 40, 0, 0);
        due(2, e.run(20));
        due(10, e.printed(0));
        due(40, e.printed(1));
    }

    static void theGreaterSalience() {
        about("the greater salience of the rule");
        ForwardRuleEngine e = withRule(0, 1, 1);
        e.test(0, BIND, 0);
        e.finish();
        finishedRule(e, 1, 0);
        addFacts(e, 0, 1);
        order(e, 1100, 220, -1000);
        e = withRule(-2, 1, 1);
        e.test(0, BIND, 0);
        e.finish();
        finishedRule(e, -1, 0);
        addFacts(e, 0, 1);
        order(e, 1100, 220, -1000);
    }

    /** Rule 0, which has more tests, and rule 1 with other conditions, over facts of the kinds 0, 1, 2 in this order. */
    private static ForwardRuleEngine twoRules(int[] kindsOfRule0, int[] kindsOfRule1) {
        ForwardRuleEngine e = withRule(0, kindsOfRule0);
        e.test(0, BIND, 0);
        e.finish();
        finishedRule(e, 0, kindsOfRule1);
        addFacts(e, 0, 1, 2);
        return e;
    }

    private static int[] kinds(int... kinds) {
        return kinds;
    }

    static void theFirstPlaceOfTheLists() {
        about("the numbers of its facts from the greatest to the least: the first place");
        order(twoRules(kinds(1, 1, 1), kinds(0, 2)), 1130, 222, -1000);
        order(twoRules(kinds(1, 1), kinds(0, 0, 2)), 1113, 220, -1000);
        order(twoRules(kinds(1, 1), kinds(2)), 1300, 220, -1000);
        order(twoRules(kinds(1, 1, 1), kinds(0, 2, 0)), 1131, 222, -1000);
    }

    static void theSecondPlaceOfTheLists() {
        about("at the first place where these lists differ the greater number: the second place");
        order(twoRules(kinds(2, 0, 0), kinds(1, 2)), 1230, 311, -1000);
        order(twoRules(kinds(2, 0), kinds(0, 1, 2)), 1123, 310, -1000);
        order(twoRules(kinds(2, 1, 1), kinds(0, 2, 2)), 1133, 322, -1000);
        order(twoRules(kinds(2, 0, 0), kinds(1, 0, 2)), 1213, 311, -1000);
    }

    static void theThirdPlaceOfTheLists() {
        about("at the first place where these lists differ the greater number: the third place");
        order(twoRules(kinds(2, 1, 0), kinds(1, 1, 2)), 1223, 321, -1000);
        order(twoRules(kinds(2, 2, 0), kinds(1, 2, 2)), 1233, 331, -1000);
        order(twoRules(kinds(2, 2, 1), kinds(2, 2, 2)), 1333, 332, -1000);
    }

    static void theLongerList() {
        about("if one list ends before it differs the longer one");
        order(twoRules(kinds(2), kinds(0, 2)), 1130, 300, -1000);
        order(twoRules(kinds(2), kinds(2, 2)), 1330, 300, -1000);
        order(twoRules(kinds(2), kinds(0, 0, 2)), 1113, 300, -1000);
        order(twoRules(kinds(2, 1), kinds(0, 1, 2)), 1123, 320, -1000);
        order(twoRules(kinds(2, 2), kinds(2, 2, 2)), 1333, 330, -1000);
        order(twoRules(kinds(0), kinds(0, 0)), 1110, 100, -1000);
    }

    static void theGreaterNumberOfTests() {
        about("then the greater number of tests in all conditions of the rule");
        ForwardRuleEngine e = withRule(0, 0);
        e.test(0, LESS, num(1));
        e.test(0, LESS, num(1));
        e.finish();
        begin(e, 0, 0);
        e.test(0, LESS, num(1));
        e.condition(1, true);
        e.test(0, EQ, num(1));
        e.condition(1, true);
        e.test(0, EQ, num(1));
        e.finish();
        begin(e, 0, 0);
        e.test(0, LESS, num(1));
        e.condition(1, true);
        for (int i = 0; i < 4; i++) {
            e.test(0, EQ, num(1));
        }
        e.finish();
        addFacts(e, 0);
        order(e, 2100, 1100, 100, -1000);
    }

    static void testsGoBeforeTheOrderOfTheConditions() {
        about("then the greater number of tests: before the facts in the order of the conditions");
        ForwardRuleEngine e = new ForwardRuleEngine();
        finishedRule(e, 0, 1, 0);
        begin(e, 0, 0, 1);
        e.test(0, EQ, num(0));
        e.finish();
        addFacts(e, 0, 1);
        order(e, 1120, 210, -1000);
    }

    static void aBindIsATest() {
        about("(a bind is a test)");
        ForwardRuleEngine e = withRule(0, 0);
        e.test(0, EQ, num(0));
        e.finish();
        begin(e, 0, 0);
        e.test(0, BIND, 0);
        e.test(1, BIND, 1);
        e.finish();
        begin(e, 0, 0);
        e.test(0, BIND, 0);
        e.finish();
        addFacts(e, 0);
        order(e, 1100, 100, 2100, -1000);
    }

    static void theLessRuleNumber() {
        about("then the less rule number");
        ForwardRuleEngine e = new ForwardRuleEngine();
        finishedRule(e, 0, 0, 1);
        finishedRule(e, 0, 1, 0);
        finishedRule(e, 0, 0, 1);
        finishedRule(e, 0, 1, 0);
        addFacts(e, 0, 1);
        order(e, 120, 1210, 2120, 3210, -1000);
    }

    static void theFactsInTheOrderOfTheConditions() {
        about("then the fact numbers in the order of the positive conditions: the greater one at the first difference");
        ForwardRuleEngine e = new ForwardRuleEngine();
        finishedRule(e, 0, 0, 0, 0);
        addFacts(e, 0, 0, 0);
        order(e, 333, 332, 323, 233, 331, 313, 133, 322, 232, 223, 321, 312, 231, 213, 132, 123);
        e = withRule(0, 0);
        e.condition(1, true);
        e.condition(0, false);
        e.finish();
        addFacts(e, 0, 0);
        order(e, 220, 210, 120, 110, -1000);
    }

    static void theOrderIsOfNumbersNotOfPlaces() {
        about("ORDER .. the numbers of its facts: also where a new fact takes the room of an old one");
        ForwardRuleEngine e = new ForwardRuleEngine();
        finishedRule(e, 0, 0);
        addFacts(e, 0, 0, 0, 0, 0, 0);
        yes(e.remove(1));
        yes(e.remove(4));
        addFacts(e, 0, 0);
        order(e, 800, 700, 600, 500, 300, 200, -1000);
    }

    // FIRING

    static void actionsInTheirOrder() {
        about("FIRING does the rule's actions in their order");
        ForwardRuleEngine e = withRule(0, 0);
        e.make(2, num(1), num(0), num(0));
        e.act(PRINT, num(2));
        e.make(1, num(3), num(0), num(0));
        e.act(PRINT, num(4));
        e.finish();
        addFacts(e, 0);
        due(1, e.run(1));
        due(2, e.fact(1, 1));
        due(1, e.fact(2, 1));
        due(4, e.printed(0));
        due(2, e.printed(1));
    }

    static void makeAtFiveAndAtSix() {
        about("MAKE adds a fact (nothing is done if 6 are there)");
        ForwardRuleEngine e = withRule(0, 0);
        e.make(1, num(7), num(8), num(9));
        e.make(2, num(7), num(8), num(9));
        e.act(PRINT, num(3));
        e.finish();
        addFacts(e, 0, 3, 3, 3, 3);
        due(1, e.run(20));
        due(6 + 8 * 6, e.facts());
        due(1, e.fact(5, 1));
        due(3, e.printed(0));
        yes(e.remove(1));
        due(7, e.add(3, 0, 0, 0));
    }

    static void makeAfterDropHasRoom() {
        about("MAKE adds a fact (nothing is done if 6 are there): a DROP before it makes room, one after it does not");
        ForwardRuleEngine e = withRule(0, 0);
        e.make(1, num(1), num(0), num(0));
        e.act(DROP, 0);
        e.make(1, num(2), num(0), num(0));
        e.make(1, num(3), num(0), num(0));
        e.finish();
        addFacts(e, 3, 3, 0, 3, 3, 3);
        due(1, e.run(20));
        due(6 + 8 * 7, e.facts());
        due(7, e.fact(5, 0));
        due(2, e.fact(5, 2));
    }

    static void makeAtSixLeavesTheMarks() {
        about("MAKE .. (nothing is done if 6 are there): no mark goes and nothing is met");
        ForwardRuleEngine e = withRule(1, 0);
        e.condition(1, true);
        e.act(PRINT, num(5));
        e.finish();
        begin(e, 0, 2);
        e.make(1, num(0), num(0), num(0));
        e.finish();
        addFacts(e, 0, 2, 3, 3, 3, 3);
        due(2, e.run(20));
        due(0, e.agenda());
        due(1, e.printed(-1));
        due(6 + 8 * 6, e.facts());
    }

    static void dropTakesTheFactOfItsCondition() {
        about("DROP removes the fact of a positive condition");
        for (int j = 0; j <= 2; j++) {
            ForwardRuleEngine e = new ForwardRuleEngine();
            e.rule(0);
            e.condition(3, true);
            e.condition(2, false);
            e.condition(3, true);
            e.condition(1, false);
            e.condition(0, false);
            e.act(DROP, j);
            e.finish();
            addFacts(e, 0, 1, 2);
            due(1, e.run(20));
            due(2 + 8 * 3, e.facts());
            no(e.remove(3 - j));
        }
    }

    static void dropOfAFactThatIsGone() {
        about("DROP removes the fact of a positive condition if it is still there");
        ForwardRuleEngine e = withRule(0, 0, 0);
        e.act(DROP, 0);
        e.act(DROP, 1);
        e.act(DROP, 0);
        e.act(PRINT, num(4));
        e.finish();
        addFacts(e, 0, 2);
        order(e, 110);
        due(1, e.run(1));
        due(1 + 8 * 2, e.facts());
        due(2, e.fact(0, 0));
        due(4, e.printed(0));
    }

    static void dropSparesTheFactThatCameInItsPlace() {
        about("DROP .. if it is still there: a fact made since then is not taken for it");
        ForwardRuleEngine e = withRule(0, 0);
        e.act(DROP, 0);
        e.make(0, num(6), num(0), num(0));
        e.act(DROP, 0);
        e.finish();
        e.add(0, 5, 0, 0);
        due(1, e.run(1));
        due(1 + 8 * 2, e.facts());
        due(2, e.fact(0, 0));
        due(6, e.fact(0, 2));
    }

    static void printOfAnyNumber() {
        about("PRINT prints a number");
        ForwardRuleEngine e = withRule(0, 0);
        e.test(0, BIND, 0);
        e.test(1, BIND, 1);
        e.act(PRINT, var(0));
        e.act(PRINT, var(1));
        e.act(PRINT, num(0));
        e.act(PRINT, num(-1));
        e.finish();
        e.add(0, MIN, MAX, 0);
        due(1, e.run(1));
        due(-1, e.printed(0));
        due(0, e.printed(1));
        due(MAX, e.printed(2));
        due(MIN, e.printed(3));
        due(4, e.printed(-1));
    }

    static void haltLetsTheFiringEnd() {
        about("HALT ends the run after this firing: the actions after it are done");
        ForwardRuleEngine e = withRule(0, 0);
        e.act(HALT, 0);
        e.act(PRINT, num(1));
        e.act(DROP, 0);
        e.make(1, num(2), num(0), num(0));
        e.finish();
        addFacts(e, 0, 0);
        due(1, e.run(20));
        due(1, e.printed(-1));
        due(1, e.printed(0));
        due(2 + 8 * 3, e.facts());
        due(3, e.fact(1, 0));
    }

    static void haltEndsTheRun() {
        about("HALT ends the run after this firing: nothing more is fired, and the next run goes on");
        for (int place = 0; place < 4; place++) {
            ForwardRuleEngine e = withRule(0, 0);
            for (int i = 0; i < 4; i++) {
                yes(i == place ? e.act(HALT, 0) : e.act(PRINT, num(i)));
            }
            e.finish();
            addFacts(e, 0, 0, 0);
            due(1, e.run(20));
            due(3, e.printed(-1));
            due(2, e.agenda());
            due(1, e.run(20));
            due(1, e.run(1));
            due(0, e.run(20));
            due(9, e.printed(-1));
        }
    }

    static void haltOfOneRuleOnly() {
        about("HALT ends the run: the firing of a rule without it does not");
        ForwardRuleEngine e = withRule(0, 0);
        e.act(HALT, 0);
        e.finish();
        finishedRule(e, 1, 0);
        finishedRule(e, -1, 0);
        addFacts(e, 0, 0);
        due(3, e.run(20));
        due(1, e.run(20));
        due(2, e.run(20));
        due(0, e.agenda());
    }

    static void variablesInActionsKeepTheirValues() {
        about("Variables in actions have the values of the instantiation");
        ForwardRuleEngine e = withRule(0, 0);
        e.test(0, BIND, 0);
        e.act(DROP, 0);
        e.make(0, num(77), var(0), num(0));
        e.make(1, var(0), num(1), var(0));
        e.act(PRINT, var(0));
        e.finish();
        e.add(0, 8, 0, 0);
        due(1, e.run(1));
        due(77, e.fact(0, 2));
        due(8, e.fact(0, 3));
        due(8, e.fact(1, 2));
        due(1, e.fact(1, 3));
        due(8, e.fact(1, 4));
        due(8, e.printed(0));
    }

    static void variablesInActionsAreOfTheFiredOne() {
        about("Variables in actions have the values of the instantiation: not of one that comes to exist meanwhile");
        ForwardRuleEngine e = withRule(0, 0, 0);
        e.test(0, BIND, 0);
        e.make(0, num(50), num(0), num(0));
        e.act(PRINT, var(0));
        e.finish();
        e.add(0, 10, 0, 0);
        due(1, e.run(1));
        due(10, e.printed(0));
        due(1, e.run(1));
        due(50, e.printed(0));
        due(3 + 8 * 3, e.facts());
        due(50, e.fact(2, 2));
    }

    // OPERAND

    private static int printOf(int operand) {
        ForwardRuleEngine e = withRule(0, 0);
        e.act(PRINT, operand);
        e.finish();
        addFacts(e, 0);
        e.run(1);
        return e.printed(0);
    }

    static void evenOperands() {
        about("an even one 2 * n means the number n");
        due(0, printOf(0));
        due(1, printOf(2));
        due(-1, printOf(-2));
        due(3, printOf(6));
        due(-3, printOf(-6));
        due(1073741823, printOf(MAX - 1));
        due(-1073741824, printOf(MIN));
    }

    static void oddOperands() {
        about("an odd one 2 * x + 1 the variable x (0..3)");
        ForwardRuleEngine e = withRule(0, 0, 0);
        for (int x = 0; x <= 3; x++) {
            yes(e.test(x % 3, BIND, x));
        }
        int[] refused = {-1, -3, 9, 11, 257, 65537, MIN + 1, MAX};
        for (int operand : refused) {
            no(e.act(PRINT, operand));
            no(e.make(0, operand, 0, 0));
        }
        yes(e.act(PRINT, 1));
        yes(e.act(PRINT, 3));
        yes(e.act(PRINT, 5));
        yes(e.act(PRINT, 7));
        yes(e.finish());
        e.add(0, 10, 20, 30);
        due(1, e.run(1));
        due(10, e.printed(0));
        due(30, e.printed(1));
        due(20, e.printed(2));
        due(10, e.printed(3));
    }

    // WHAT IT IS

    static void theLastOf512Calls() {
        about("An object is used for at most 512 calls: the last ones still answer as due");
        ForwardRuleEngine e = withRule(0, 0, 1);
        e.make(0, num(0), num(0), num(0));
        e.make(1, num(0), num(0), num(0));
        e.act(DROP, 0);
        e.act(DROP, 1);
        e.finish();
        addFacts(e, 0, 1);
        int calls = 10;
        while (calls < 507) {
            due(20, e.run(20));
            calls++;
        }
        int made = 2 + 2 * 20 * (507 - 10);
        due(2 + 8 * made, e.facts());
        due(made - 1, e.fact(0, 0));
        due(made, e.fact(1, 0));
        due(made, e.factAt(0, 1));
        due(20, e.run(20));
    }
}
