import java.util.function.Consumer;

/** The sentences of the promises 1 and 8 to 16 that name a boundary case: a test for each. */
public final class FactCallsTest extends Sheet {
    public static void main(String[] args) throws IllegalAccessException {
        runAll(FactCallsTest.class);
    }

    /** Two rules, facts of the kinds 0, 1 and 3, one firing done and some to come, and two numbers printed. */
    private static void busy(ForwardRuleEngine e) {
        begin(e, 0, 0);
        e.test(0, BIND, 0);
        e.condition(2, true);
        e.act(PRINT, var(0));
        e.act(PRINT, num(-3));
        e.finish();
        finishedRule(e, -1, 0, 1);
        e.add(0, 10, 20, 30);
        e.add(0, -1, -2, -3);
        e.add(1, MIN, MAX, 0);
        e.add(3, 0, 0, 0);
        e.run(1);
    }

    private static void busyAndFull(ForwardRuleEngine e) {
        busy(e);
        e.add(3, 1, 1, 1);
        e.add(3, 2, 2, 2);
    }

    // Promise 1: a new object

    static void p1NoRules() {
        about("promise 1: No rules");
        ForwardRuleEngine e = new ForwardRuleEngine();
        no(e.finish());
        no(e.condition(0, false));
        no(e.test(0, EQ, num(0)));
        no(e.make(0, num(0), num(0), num(0)));
        no(e.act(HALT, 0));
        addFacts(e, 0, 1, 2, 3);
        due(0, e.agenda());
        due(-1, e.ruleAt(0));
        due(0, e.factAt(0, 0));
        due(0, e.run(20));
        due(0, e.rule(0));
    }

    static void p1NoFacts() {
        about("promise 1: .. no facts");
        ForwardRuleEngine e = new ForwardRuleEngine();
        due(0, e.facts());
        for (int what = 0; what <= 4; what++) {
            due(-1, e.fact(0, what));
        }
        for (int number = 0; number <= 6; number++) {
            no(e.remove(number));
        }
        for (int kind = 0; kind <= 3; kind++) {
            finishedRule(e, 0, kind);
        }
        due(0, e.agenda());
        due(0, e.run(20));
        due(1, e.add(0, 0, 0, 0));
    }

    static void p1NothingPrinted() {
        about("promise 1: .. nothing printed");
        ForwardRuleEngine e = new ForwardRuleEngine();
        for (int k = -1; k <= 15; k++) {
            due(0, e.printed(k));
        }
    }

    static void p1ObjectsAreApart() {
        about("promise 1: No rules, no facts, nothing printed: whatever other objects have");
        ForwardRuleEngine before = new ForwardRuleEngine();
        ForwardRuleEngine other = new ForwardRuleEngine();
        busyAndFull(other);
        ForwardRuleEngine[] fresh = {before, new ForwardRuleEngine()};
        for (ForwardRuleEngine e : fresh) {
            due(0, e.agenda());
            due(0, e.facts());
            due(-1, e.fact(0, 0));
            due(0, e.printed(-1));
            due(0, e.printed(0));
            due(0, e.rule(0));
            due(1, e.add(0, 0, 0, 0));
        }
        due(6 + 8 * 6, other.facts());
    }

    // Promise 8: add

    static void p8AnswersItsNumber() {
        about("promise 8: Adds a fact; answers its number");
        ForwardRuleEngine e = new ForwardRuleEngine();
        for (int i = 1; i <= 6; i++) {
            due(i, e.add(i % 4, MIN + i, 0, MAX - i));
            due(i + 8 * i, e.facts());
            due(i, e.fact(i - 1, 0));
            due(i % 4, e.fact(i - 1, 1));
            due(MIN + i, e.fact(i - 1, 2));
            due(0, e.fact(i - 1, 3));
            due(MAX - i, e.fact(i - 1, 4));
        }
        yes(e.remove(3));
        yes(e.remove(6));
        due(7, e.add(0, 0, 0, 0));
        due(8, e.add(0, 0, 0, 0));
    }

    static void p8KindOutside() {
        about("promise 8: 0, changing nothing, if kind is outside 0..3");
        Consumer<ForwardRuleEngine> refused = e -> {
            for (int kind : outside(0, 3)) {
                due(0, e.add(kind, 1, 2, 3));
            }
        };
        changesNothing(e -> { }, refused);
        changesNothing(FactCallsTest::busy, refused);
        changesNothing(FactCallsTest::busyAndFull, refused);
        ForwardRuleEngine e = new ForwardRuleEngine();
        refused.accept(e);
        due(1, e.add(0, 0, 0, 0));
    }

    static void p8SixFactsThere() {
        about("promise 8: 0, changing nothing, if .. 6 facts are there");
        changesNothing(FactCallsTest::busyAndFull, e -> {
            for (int kind = 0; kind <= 3; kind++) {
                due(0, e.add(kind, 1, 2, 3));
            }
        });
        ForwardRuleEngine e = new ForwardRuleEngine();
        busyAndFull(e);
        String before = view(e);
        due(0, e.add(2, 0, 0, 0));
        same(before, view(e));
        yes(e.remove(4));
        due(7, e.add(2, 0, 0, 0));
        due(0, e.add(2, 0, 0, 0));
    }

    // Promise 9: remove

    static void p9RemovesTheFactOfThatNumber() {
        about("promise 9: Removes the fact of that number");
        for (int number = 1; number <= 6; number++) {
            ForwardRuleEngine e = new ForwardRuleEngine();
            addFacts(e, 0, 1, 2, 3, 0, 1);
            yes(e.remove(number));
            due(5 + 8 * 6, e.facts());
            for (int i = 0; i < 5; i++) {
                due(i + 1 < number ? i + 1 : i + 2, e.fact(i, 0));
            }
            due(-1, e.fact(5, 0));
        }
    }

    static void p9RemovesTheLast() {
        about("promise 9: Removes the fact of that number: the last one that is there");
        ForwardRuleEngine e = new ForwardRuleEngine();
        addFacts(e, 0);
        yes(e.remove(1));
        due(8, e.facts());
        due(-1, e.fact(0, 0));
        no(e.remove(1));
        due(2, e.add(0, 0, 0, 0));
    }

    private static void removesNone(ForwardRuleEngine e) {
        int[] none = {0, -1, 7, 8, 256, 257, 65537, MIN, MIN + 1, MAX};
        for (int number : none) {
            no(e.remove(number));
        }
    }

    static void p9NoFactOfThatNumber() {
        about("promise 9: false if there is none");
        changesNothing(e -> { }, FactCallsTest::removesNone);
        changesNothing(FactCallsTest::busy, FactCallsTest::removesNone);
        changesNothing(FactCallsTest::busyAndFull, FactCallsTest::removesNone);
        ForwardRuleEngine e = new ForwardRuleEngine();
        busy(e);
        String before = view(e);
        removesNone(e);
        no(e.remove(5));
        same(before, view(e));
    }

    static void p9RemovedAlready() {
        about("promise 9: false if there is none: removed or dropped already");
        ForwardRuleEngine e = withRule(0, 1);
        e.act(DROP, 0);
        e.finish();
        addFacts(e, 0, 1, 0);
        yes(e.remove(1));
        no(e.remove(1));
        due(1, e.run(1));
        no(e.remove(2));
        addFacts(e, 0, 0);
        no(e.remove(1));
        no(e.remove(2));
        due(3 + 8 * 5, e.facts());
        yes(e.remove(3));
    }

    // Promise 10: run

    private static ForwardRuleEngine thirtySix() {
        ForwardRuleEngine e = withRule(0, 0, 0);
        e.act(PRINT, num(1));
        e.finish();
        addFacts(e, 0, 0, 0, 0, 0, 0);
        return e;
    }

    static void p10FiresUpToN() {
        about("promise 10: Fires the first instantiation, again and again, up to n times");
        for (int n = 1; n <= 20; n++) {
            ForwardRuleEngine e = thirtySix();
            due(n, e.run(n));
            due(n, e.printed(-1));
            due(36 - n, e.agenda());
        }
    }

    static void p10NOutside() {
        about("promise 10: n 1..20; else nothing is done");
        Consumer<ForwardRuleEngine> refused = e -> {
            for (int n : outside(1, 20)) {
                due(0, e.run(n));
            }
        };
        changesNothing(FactCallsTest::busy, refused);
        changesNothing(FactCallsTest::busyAndFull, refused);
        ForwardRuleEngine e = thirtySix();
        String before = view(e);
        refused.accept(e);
        same(before, view(e));
        due(1, e.run(1));
        due(20, e.run(20));
    }

    static void p10UntilThereIsNone() {
        about("promise 10: until there is none");
        ForwardRuleEngine e = thirtySix();
        due(20, e.run(20));
        due(15, e.run(15));
        due(1, e.run(20));
        due(0, e.run(20));
        due(0, e.run(1));
        due(36, e.printed(-1));
        due(0, new ForwardRuleEngine().run(20));
    }

    static void p10OrAHaltWasDone() {
        about("promise 10: until .. a HALT was done");
        ForwardRuleEngine e = thirtySix();
        begin(e, -1, 0);
        e.act(HALT, 0);
        e.finish();
        due(20, e.run(20));
        due(16, e.run(16));
        due(1, e.run(20));
        due(1, e.run(1));
        due(1, e.run(2));
        due(3, e.agenda());
        begin(e, 1, 0);
        e.finish();
        due(6, e.run(6));
        due(1, e.run(20));
    }

    static void p10ARunThatFeedsItself() {
        about("promise 10: up to n times: also where every firing makes the next one");
        ForwardRuleEngine e = withRule(0, 0);
        e.act(DROP, 0);
        e.make(0, num(0), num(0), num(0));
        e.finish();
        addFacts(e, 0);
        due(20, e.run(20));
        due(1 + 8 * 21, e.facts());
        due(19, e.run(19));
        due(1 + 8 * 40, e.facts());
        due(1, e.agenda());
    }

    static void p10FiresWhatComesToBeFirst() {
        about("promise 10: Fires the first instantiation, again and again: the first one of that moment");
        ForwardRuleEngine e = withRule(0, 0);
        e.test(0, BIND, 0);
        e.act(PRINT, var(0));
        e.make(1, var(0), num(0), num(0));
        e.finish();
        begin(e, 1, 1);
        e.test(0, BIND, 0);
        e.act(DROP, 0);
        e.act(PRINT, num(-5));
        e.finish();
        e.add(0, 1, 0, 0);
        e.add(0, 2, 0, 0);
        due(4, e.run(20));
        due(-5, e.printed(0));
        due(1, e.printed(1));
        due(-5, e.printed(2));
        due(2, e.printed(3));
        due(2 + 8 * 4, e.facts());
    }

    static void p10LeavesTheRuleUnderConstruction() {
        about("promise 10: run: a rule under construction stays so");
        ForwardRuleEngine e = new ForwardRuleEngine();
        finishedRule(e, 0, 0);
        addFacts(e, 0);
        begin(e, 1, 0);
        due(1, e.run(20));
        due(0, e.agenda());
        yes(e.act(PRINT, num(3)));
        yes(e.finish());
        due(1, e.run(20));
        due(3, e.printed(0));
    }

    // Promise 11: agenda

    static void p11None() {
        about("promise 11: How many instantiations without mark exist: none");
        ForwardRuleEngine e = new ForwardRuleEngine();
        due(0, e.agenda());
        addFacts(e, 0, 1, 2);
        due(0, e.agenda());
        finishedRule(e, 0, 3);
        due(0, e.agenda());
        finishedRule(e, 0, 0);
        due(1, e.agenda());
        due(1, e.run(20));
        due(0, e.agenda());
    }

    static void p11TheMost() {
        about("promise 11: How many instantiations without mark exist: the most there can be");
        ForwardRuleEngine e = new ForwardRuleEngine();
        for (int rule = 0; rule < 4; rule++) {
            finishedRule(e, 0, 3, 3, 3);
        }
        for (int count = 1; count <= 6; count++) {
            addFacts(e, 3);
            due(4 * count * count * count, e.agenda());
        }
        due(20, e.run(20));
        due(4 * 216 - 20, e.agenda());
        for (int i = 0; i < 42; i++) {
            due(20, e.run(20));
        }
        due(4, e.agenda());
        due(4, e.run(20));
        due(0, e.agenda());
    }

    static void p11FewerPositiveConditions() {
        about("promise 11: How many instantiations .. exist: one for each fact, pair or triple");
        ForwardRuleEngine e = new ForwardRuleEngine();
        finishedRule(e, 0, 0);
        addFacts(e, 0, 0, 0, 0, 0, 0);
        due(6, e.agenda());
        finishedRule(e, 0, 0, 0);
        due(6 + 36, e.agenda());
        finishedRule(e, 0, 0, 0, 0);
        due(6 + 36 + 216, e.agenda());
    }

    // Promise 12: ruleAt

    static void p12PlacesUpTo15() {
        about("promise 12: The rule of the instantiation at place k (0 the first, 0..15) of the order");
        ForwardRuleEngine e = new ForwardRuleEngine();
        int[] saliences = {2, 4, 1, 3};
        for (int salience : saliences) {
            finishedRule(e, salience, 0);
        }
        addFacts(e, 0, 0, 0, 0);
        int[] rules = {1, 3, 0, 2};
        for (int k = 0; k <= 15; k++) {
            due(rules[k / 4], e.ruleAt(k));
        }
        due(-1, e.ruleAt(16));
        addFacts(e, 0);
        for (int k = 0; k <= 15; k++) {
            due(rules[k / 5], e.ruleAt(k));
        }
    }

    static void p12NoneAtThatPlace() {
        about("promise 12: -1 if there is none");
        ForwardRuleEngine e = new ForwardRuleEngine();
        due(-1, e.ruleAt(0));
        finishedRule(e, 0, 0);
        due(-1, e.ruleAt(0));
        for (int count = 1; count <= 3; count++) {
            addFacts(e, 0);
            due(0, e.ruleAt(count - 1));
            due(-1, e.ruleAt(count));
            due(-1, e.ruleAt(15));
        }
        due(1, e.run(1));
        due(0, e.ruleAt(1));
        due(-1, e.ruleAt(2));
        due(2, e.run(20));
        due(-1, e.ruleAt(0));
    }

    static void p12KOutside() {
        about("promise 12: -1 if .. k is outside");
        ForwardRuleEngine e = thirtySix();
        due(36, e.agenda());
        due(0, e.ruleAt(0));
        due(0, e.ruleAt(15));
        for (int k : outside(0, 15)) {
            due(-1, e.ruleAt(k));
        }
        due(-1, e.ruleAt(35));
        due(-1, e.ruleAt(36));
    }

    // Promise 13: factAt

    static void p13PositiveConditionJ() {
        about("promise 13: The number of the fact that the instantiation at place k gives to positive condition j");
        ForwardRuleEngine e = new ForwardRuleEngine();
        e.rule(0);
        e.condition(3, true);
        e.condition(2, false);
        e.condition(3, true);
        e.condition(0, false);
        e.condition(1, false);
        e.finish();
        addFacts(e, 0, 1, 2, 1);
        due(3, e.factAt(0, 0));
        due(1, e.factAt(0, 1));
        due(4, e.factAt(0, 2));
        due(3, e.factAt(1, 0));
        due(1, e.factAt(1, 1));
        due(2, e.factAt(1, 2));
    }

    static void p13PlacesUpTo15() {
        about("promise 13: at place k .. 0 if .. k is outside 0..15");
        ForwardRuleEngine e = thirtySix();
        due(6, e.factAt(0, 0));
        due(6, e.factAt(0, 1));
        due(3, e.factAt(15, 0));
        due(5, e.factAt(15, 1));
        for (int k : outside(0, 15)) {
            due(0, e.factAt(k, 0));
            due(0, e.factAt(k, 1));
        }
    }

    static void p13NoSuchInstantiation() {
        about("promise 13: 0 if there is no such: no instantiation at place k");
        ForwardRuleEngine e = new ForwardRuleEngine();
        due(0, e.factAt(0, 0));
        finishedRule(e, 0, 0);
        due(0, e.factAt(0, 0));
        for (int count = 1; count <= 3; count++) {
            addFacts(e, 0);
            due(1, e.factAt(count - 1, 0));
            due(0, e.factAt(count, 0));
            due(0, e.factAt(15, 0));
        }
        due(3, e.run(20));
        due(0, e.factAt(0, 0));
    }

    static void p13NoSuchCondition() {
        about("promise 13: 0 if there is no such: no positive condition j");
        ForwardRuleEngine e = withRule(2, 0);
        e.condition(2, true);
        e.condition(3, true);
        e.finish();
        finishedRule(e, 1, 0, 0);
        finishedRule(e, 0, 0, 0, 0);
        addFacts(e, 0);
        for (int k = 0; k <= 2; k++) {
            due(1, e.factAt(k, k));
            for (int j : outside(0, k)) {
                due(0, e.factAt(k, j));
            }
            due(0, e.factAt(k, 3));
        }
    }

    // Promise 14: facts

    static void p14HowMany() {
        about("promise 14: How many facts are there, + 8 * how many were ever made");
        ForwardRuleEngine e = withRule(0, 1);
        e.act(DROP, 0);
        e.make(2, num(0), num(0), num(0));
        e.make(3, num(0), num(0), num(0));
        e.finish();
        due(0, e.facts());
        addFacts(e, 0);
        due(1 + 8, e.facts());
        yes(e.remove(1));
        due(8, e.facts());
        addFacts(e, 0, 0, 0, 0, 0, 1);
        due(6 + 8 * 7, e.facts());
        due(0, e.add(0, 0, 0, 0));
        due(6 + 8 * 7, e.facts());
        due(1, e.run(1));
        due(6 + 8 * 8, e.facts());
    }

    // Promise 15: fact

    static void p15OldestFirst() {
        about("promise 15: Of the i-th oldest fact (0 the oldest) that is there");
        ForwardRuleEngine e = new ForwardRuleEngine();
        addFacts(e, 0, 0, 0, 0, 0, 0);
        yes(e.remove(1));
        yes(e.remove(6));
        yes(e.remove(3));
        addFacts(e, 0, 0, 0);
        int[] numbers = {2, 4, 5, 7, 8, 9};
        for (int i = 0; i < 6; i++) {
            due(numbers[i], e.fact(i, 0));
        }
    }

    static void p15What() {
        about("promise 15: what 0 its number, 1 its kind, 2 to 4 its fields");
        ForwardRuleEngine e = new ForwardRuleEngine();
        e.add(3, 10, 20, 30);
        e.add(1, MIN, -1, MAX);
        int[][] facts = {{1, 3, 10, 20, 30}, {2, 1, MIN, -1, MAX}};
        for (int i = 0; i < 2; i++) {
            for (int what = 0; what <= 4; what++) {
                due(facts[i][what], e.fact(i, what));
            }
        }
    }

    static void p15NoSuchFact() {
        about("promise 15: -1 if there is none");
        ForwardRuleEngine e = new ForwardRuleEngine();
        for (int count = 0; count <= 6; count++) {
            for (int what = 0; what <= 4; what++) {
                due(-1, e.fact(count, what));
                due(-1, e.fact(-1, what));
                due(-1, e.fact(6, what));
            }
            addFacts(e, 2);
        }
        for (int i : outside(0, 5)) {
            due(-1, e.fact(i, 0));
            due(-1, e.fact(i, 2));
        }
        yes(e.remove(1));
        due(6, e.fact(4, 0));
        due(-1, e.fact(5, 0));
    }

    static void p15WhatOutside() {
        about("promise 15: -1 if .. what is outside 0..4");
        ForwardRuleEngine e = new ForwardRuleEngine();
        e.add(3, 10, 20, 30);
        e.add(3, 40, 50, 60);
        for (int what : outside(0, 4)) {
            due(-1, e.fact(0, what));
            due(-1, e.fact(1, what));
        }
    }

    // Promise 16: printed

    /** Has printed the numbers 1 to count, at a cost of 2 calls for each. */
    private static ForwardRuleEngine printing(int count) {
        ForwardRuleEngine e = withRule(0, 0);
        e.test(0, BIND, 0);
        e.act(PRINT, var(0));
        e.act(DROP, 0);
        e.finish();
        for (int i = 1; i <= count; i++) {
            e.add(0, i, 0, 0);
            e.run(1);
        }
        return e;
    }

    static void p16FromTheLatest() {
        about("promise 16: The k-th number printed counted from the latest (0)");
        int[] counts = {1, 2, 15, 16, 17, 31, 32, 33, 100};
        for (int count : counts) {
            ForwardRuleEngine e = printing(count);
            for (int k = 0; k <= 15 && k < count; k++) {
                due(count - k, e.printed(k));
            }
        }
    }

    static void p16NotSoMany() {
        about("promise 16: 0 if there were not so many");
        for (int count = 0; count <= 15; count++) {
            ForwardRuleEngine e = printing(count);
            for (int k = count; k <= 15; k++) {
                due(0, e.printed(k));
            }
        }
    }

    static void p16KOutside() {
        about("promise 16: 0 if .. k is outside 0..15");
        ForwardRuleEngine e = printing(40);
        due(25, e.printed(15));
        due(0, e.printed(16));
        due(0, e.printed(-2));
        for (int k : outside(-1, 15)) {
            due(0, e.printed(k));
        }
    }

    static void p16HowMany() {
        about("promise 16: k = -1: how many were printed");
        int[] counts = {0, 1, 15, 16, 17, 32, 100, 250};
        for (int count : counts) {
            due(count, printing(count).printed(-1));
        }
    }

    static void p16SeveralInOneFiring() {
        about("promise 16: counted from the latest: of several in one firing the last is the latest");
        ForwardRuleEngine e = withRule(0, 0);
        for (int i = 1; i <= 4; i++) {
            e.act(PRINT, num(i));
        }
        e.finish();
        addFacts(e, 0, 0, 0, 0, 0);
        due(4, e.run(4));
        for (int k = 0; k <= 15; k++) {
            due(4 - k % 4, e.printed(k));
        }
        due(16, e.printed(-1));
        due(1, e.run(4));
        due(1, e.printed(15));
        due(20, e.printed(-1));
    }

    // What the asking calls leave alone

    static void askingChangesNothing() {
        about("promises 11 to 16: what is asked, inside and outside, changes nothing");
        changesNothing(FactCallsTest::busy, e -> {
            e.agenda();
            e.facts();
            int[] asked = {0, 1, -1, 15, 16, MIN, MAX};
            for (int k : asked) {
                e.ruleAt(k);
                e.factAt(k, 0);
                e.factAt(0, k);
                e.fact(k, 0);
                e.fact(0, k);
                e.printed(k);
            }
        });
    }
}
