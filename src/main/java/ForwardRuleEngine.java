/**
 * A forward-chaining rule engine: facts, rules with joined and negated conditions, and an agenda in a fixed order.
 *
 * A fact stays in one slot as long as it is there, so that a candidate (a rule with one slot for each positive
 * condition) can stand for an instantiation. Every single change of the facts is followed by settle(), so a slot
 * never passes from one fact to the next with a mark left over.
 */
public final class ForwardRuleEngine {
    private static final int NONE = -1;

    private static final int KINDS = 4;
    private static final int FIELDS = 3;
    private static final int VARIABLES = 4;
    private static final int GREATEST_SALIENCE = 9;

    private static final int MAX_FACTS = 6;
    private static final int MAX_RULES = 4;
    private static final int MAX_POSITIVE = 3;
    private static final int MAX_NEGATED = 2;
    private static final int MAX_CONDITIONS = MAX_POSITIVE + MAX_NEGATED;
    private static final int MAX_TESTS = 4;
    private static final int MAX_ACTIONS = 4;
    private static final int MAX_FIRINGS = 20;
    private static final int PLACES = 16;
    private static final int MADE_UNIT = 8;

    private static final int EQUAL = 0;
    private static final int DIFFERENT = 1;
    private static final int BIND = 3;

    private static final int DROP = 0;
    private static final int PRINT = 1;
    private static final int HALT = 2;
    private static final int MAKE = 3;

    private static final int ALL_FIELDS = MAX_FACTS * FIELDS;
    private static final int ALL_VARIABLES = MAX_RULES * VARIABLES;
    private static final int ALL_CONDITIONS = MAX_RULES * MAX_CONDITIONS;
    private static final int ALL_TESTS = ALL_CONDITIONS * MAX_TESTS;
    private static final int ALL_ACTIONS = MAX_RULES * MAX_ACTIONS;
    private static final int ALL_OPERANDS = ALL_ACTIONS * FIELDS;
    private static final int COMBINATIONS = MAX_FACTS * MAX_FACTS * MAX_FACTS;
    private static final int ALL_SLOTS = COMBINATIONS * MAX_POSITIVE;
    private static final int CANDIDATES = MAX_RULES * COMBINATIONS;

    // A slot is empty when its number is 0.
    private final int[] factNumber = new int[MAX_FACTS];
    private final int[] factKind = new int[MAX_FACTS];
    private final int[] factField = new int[ALL_FIELDS];
    private int factCount = 0;
    private int madeCount = 0;

    private int ruleCount = 0;
    private boolean building = false;
    private final int[] salienceOf = new int[MAX_RULES];
    private final int[] positiveCount = new int[MAX_RULES];
    private final int[] negatedCount = new int[MAX_RULES];
    private final int[] testTotal = new int[MAX_RULES];
    private final int[] actionCount = new int[MAX_RULES];
    private final boolean[] halts = new boolean[MAX_RULES];

    private final boolean[] bound = new boolean[ALL_VARIABLES];
    private final int[] boundPositive = new int[ALL_VARIABLES];
    private final int[] boundField = new int[ALL_VARIABLES];

    private final int[] conditionKind = new int[ALL_CONDITIONS];
    private final boolean[] conditionNegated = new boolean[ALL_CONDITIONS];
    private final int[] testCount = new int[ALL_CONDITIONS];

    private final int[] testField = new int[ALL_TESTS];
    private final int[] testHow = new int[ALL_TESTS];
    private final int[] testOperand = new int[ALL_TESTS];

    private final int[] actionWhat = new int[ALL_ACTIONS];
    private final int[] actionKind = new int[ALL_ACTIONS];
    private final int[] actionOperand = new int[ALL_OPERANDS];

    private final int[] combinationSlot = new int[ALL_SLOTS];
    private final boolean[] exists = new boolean[CANDIDATES];
    private final boolean[] marked = new boolean[CANDIDATES];
    private final int[] variable = new int[VARIABLES];

    // A firing keeps its own copies: its actions change the slots while they run.
    private final int[] firedFact = new int[MAX_POSITIVE];
    private final int[] firedVariable = new int[VARIABLES];

    private final int[] printedNumber = new int[PLACES];
    private int printedCount = 0;

    public ForwardRuleEngine() {
        for (int combination = 0; combination < COMBINATIONS; combination++) {
            int base = combination * MAX_POSITIVE;
            combinationSlot[base] = combination % MAX_FACTS;
            combinationSlot[base + 1] = combination / MAX_FACTS % MAX_FACTS;
            combinationSlot[base + 2] = combination / MAX_FACTS / MAX_FACTS;
        }
    }

    public int rule(int salience) {
        if (building || ruleCount >= MAX_RULES) {
            return -1;
        }
        if (salience < -GREATEST_SALIENCE || salience > GREATEST_SALIENCE) {
            return -1;
        }
        salienceOf[ruleCount] = salience;
        building = true;
        ruleCount++;
        return ruleCount - 1;
    }

    public boolean condition(int kind, boolean negated) {
        if (!building || !isKind(kind)) {
            return false;
        }
        int rule = ruleCount - 1;
        boolean full = negated ? negatedCount[rule] >= MAX_NEGATED : positiveCount[rule] >= MAX_POSITIVE;
        if (full || actionCount[rule] > 0) {
            return false;
        }
        int condition = rule * MAX_CONDITIONS + conditionCount(rule);
        conditionKind[condition] = kind;
        conditionNegated[condition] = negated;
        if (negated) {
            negatedCount[rule]++;
        } else {
            positiveCount[rule]++;
        }
        return true;
    }

    public boolean test(int field, int how, int operand) {
        if (!building || field < 0 || field >= FIELDS || how < EQUAL || how > BIND) {
            return false;
        }
        int rule = ruleCount - 1;
        int conditions = conditionCount(rule);
        if (conditions == 0 || actionCount[rule] > 0) {
            return false;
        }
        int condition = rule * MAX_CONDITIONS + conditions - 1;
        if (testCount[condition] >= MAX_TESTS) {
            return false;
        }
        if (how == BIND) {
            if (conditionNegated[condition] || !isVariable(operand) || isBound(rule, operand)) {
                return false;
            }
            bindToLastPositive(rule, operand, field);
        } else if (!isUsable(rule, operand)) {
            return false;
        }
        int test = condition * MAX_TESTS + testCount[condition];
        testField[test] = field;
        testHow[test] = how;
        testOperand[test] = operand;
        testCount[condition]++;
        testTotal[rule]++;
        return true;
    }

    public boolean make(int kind, int x, int y, int z) {
        if (!takesAction() || !isKind(kind)) {
            return false;
        }
        int rule = ruleCount - 1;
        if (!isUsable(rule, x) || !isUsable(rule, y) || !isUsable(rule, z)) {
            return false;
        }
        appendAction(MAKE, kind, x, y, z);
        return true;
    }

    public boolean act(int what, int operand) {
        if (!takesAction() || what < DROP || what > HALT) {
            return false;
        }
        int rule = ruleCount - 1;
        if (what == DROP && (operand < 0 || operand >= positiveCount[rule])) {
            return false;
        }
        if (what == PRINT && !isUsable(rule, operand)) {
            return false;
        }
        if (what == HALT) {
            halts[rule] = true;
        }
        appendAction(what, 0, operand, 0, 0);
        return true;
    }

    public boolean finish() {
        if (!building || positiveCount[ruleCount - 1] == 0) {
            return false;
        }
        building = false;
        settle();
        return true;
    }

    public int add(int kind, int x, int y, int z) {
        if (!isKind(kind)) {
            return 0;
        }
        int number = storeFact(kind, x, y, z);
        settle();
        return number;
    }

    public boolean remove(int number) {
        boolean erased = eraseFact(number);
        settle();
        return erased;
    }

    public int run(int n) {
        if (n < 1 || n > MAX_FIRINGS) {
            return 0;
        }
        for (int fired = 0; fired < n; fired++) {
            int candidate = firstAfter(NONE);
            if (candidate == NONE) {
                return fired;
            }
            int rule = candidate / COMBINATIONS;
            int actions = actionCount[rule];
            beginFiring(candidate);
            for (int i = 0; i < actions; i++) {
                perform(rule * MAX_ACTIONS + i);
                settle();
            }
            if (halts[rule]) {
                return fired + 1;
            }
        }
        return n;
    }

    public int agenda() {
        int waiting = 0;
        for (int candidate = 0; candidate < CANDIDATES; candidate++) {
            if (isWaiting(candidate)) {
                waiting++;
            }
        }
        return waiting;
    }

    public int ruleAt(int k) {
        int candidate = candidateAt(k);
        return candidate == NONE ? -1 : candidate / COMBINATIONS;
    }

    public int factAt(int k, int j) {
        if (j < 0 || j >= MAX_POSITIVE) {
            return 0;
        }
        int candidate = candidateAt(k);
        return candidate == NONE ? 0 : givenFact(candidate, j);
    }

    public int facts() {
        return factCount + MADE_UNIT * madeCount;
    }

    public int fact(int i, int what) {
        int slot = slotByAge(i);
        if (slot == NONE) {
            return -1;
        }
        switch (what) {
            case 0:
                return factNumber[slot];
            case 1:
                return factKind[slot];
            case 2:
            case 3:
            case 4:
                return factField[slot * FIELDS + what - 2];
            default:
                return -1;
        }
    }

    public int printed(int k) {
        if (k == -1) {
            return printedCount;
        }
        if (k < 0 || k >= PLACES || k >= printedCount) {
            return 0;
        }
        return printedNumber[(printedCount - 1 - k) & (PLACES - 1)];
    }

    private static boolean isKind(int kind) {
        return kind >= 0 && kind < KINDS;
    }

    private static boolean isVariable(int x) {
        return x >= 0 && x < VARIABLES;
    }

    private boolean isBound(int rule, int x) {
        return bound[rule * VARIABLES + x];
    }

    private boolean isUsable(int rule, int operand) {
        if ((operand & 1) == 0) {
            return true;
        }
        int x = operand >> 1;
        return isVariable(x) && isBound(rule, x);
    }

    private int conditionCount(int rule) {
        return positiveCount[rule] + negatedCount[rule];
    }

    private void bindToLastPositive(int rule, int x, int field) {
        int place = rule * VARIABLES + x;
        bound[place] = true;
        boundPositive[place] = positiveCount[rule] - 1;
        boundField[place] = field;
    }

    private boolean takesAction() {
        return building && positiveCount[ruleCount - 1] > 0 && actionCount[ruleCount - 1] < MAX_ACTIONS;
    }

    private void appendAction(int what, int kind, int x, int y, int z) {
        int rule = ruleCount - 1;
        int action = rule * MAX_ACTIONS + actionCount[rule];
        actionWhat[action] = what;
        actionKind[action] = kind;
        actionOperand[action * FIELDS] = x;
        actionOperand[action * FIELDS + 1] = y;
        actionOperand[action * FIELDS + 2] = z;
        actionCount[rule]++;
    }

    private int storeFact(int kind, int x, int y, int z) {
        int slot = slotOfNumber(0);
        if (slot == NONE) {
            return 0;
        }
        madeCount++;
        factCount++;
        factNumber[slot] = madeCount;
        factKind[slot] = kind;
        factField[slot * FIELDS] = x;
        factField[slot * FIELDS + 1] = y;
        factField[slot * FIELDS + 2] = z;
        return madeCount;
    }

    private boolean eraseFact(int number) {
        // 0 is the number of the empty slots.
        if (number == 0) {
            return false;
        }
        int slot = slotOfNumber(number);
        if (slot == NONE) {
            return false;
        }
        factNumber[slot] = 0;
        factCount--;
        return true;
    }

    private int slotOfNumber(int number) {
        for (int slot = 0; slot < MAX_FACTS; slot++) {
            if (factNumber[slot] == number) {
                return slot;
            }
        }
        return NONE;
    }

    private int slotByAge(int i) {
        for (int slot = 0; slot < MAX_FACTS; slot++) {
            if (factNumber[slot] != 0 && olderFacts(slot) == i) {
                return slot;
            }
        }
        return NONE;
    }

    private int olderFacts(int slot) {
        int older = 0;
        for (int other = 0; other < MAX_FACTS; other++) {
            if (factNumber[other] != 0 && factNumber[other] < factNumber[slot]) {
                older++;
            }
        }
        return older;
    }

    private void settle() {
        int finished = building ? ruleCount - 1 : ruleCount;
        for (int candidate = 0; candidate < finished * COMBINATIONS; candidate++) {
            exists[candidate] = isInstantiation(candidate);
            if (!exists[candidate]) {
                marked[candidate] = false;
            }
        }
    }

    private boolean isInstantiation(int candidate) {
        if (!givesFacts(candidate)) {
            return false;
        }
        readVariables(candidate, variable);
        int rule = candidate / COMBINATIONS;
        int slotBase = candidate % COMBINATIONS * MAX_POSITIVE;
        int conditions = conditionCount(rule);
        int positive = 0;
        for (int i = 0; i < conditions; i++) {
            int condition = rule * MAX_CONDITIONS + i;
            if (conditionNegated[condition]) {
                if (isMet(condition)) {
                    return false;
                }
            } else {
                if (!passes(condition, combinationSlot[slotBase + positive])) {
                    return false;
                }
                positive++;
            }
        }
        return true;
    }

    // A rule with fewer positive conditions leaves the last slots at 0, lest one instantiation have two candidates.
    private boolean givesFacts(int candidate) {
        int positives = positiveCount[candidate / COMBINATIONS];
        int slotBase = candidate % COMBINATIONS * MAX_POSITIVE;
        for (int j = 0; j < MAX_POSITIVE; j++) {
            int slot = combinationSlot[slotBase + j];
            if (j < positives ? factNumber[slot] == 0 : slot != 0) {
                return false;
            }
        }
        return true;
    }

    private void readVariables(int candidate, int[] into) {
        int rule = candidate / COMBINATIONS;
        int slotBase = candidate % COMBINATIONS * MAX_POSITIVE;
        for (int x = 0; x < VARIABLES; x++) {
            if (isBound(rule, x)) {
                int place = rule * VARIABLES + x;
                int slot = combinationSlot[slotBase + boundPositive[place]];
                into[x] = factField[slot * FIELDS + boundField[place]];
            }
        }
    }

    private boolean isMet(int condition) {
        for (int slot = 0; slot < MAX_FACTS; slot++) {
            if (factNumber[slot] != 0 && passes(condition, slot)) {
                return true;
            }
        }
        return false;
    }

    private boolean passes(int condition, int slot) {
        if (factKind[slot] != conditionKind[condition]) {
            return false;
        }
        for (int i = 0; i < testCount[condition]; i++) {
            int test = condition * MAX_TESTS + i;
            int left = factField[slot * FIELDS + testField[test]];
            int how = testHow[test];
            if (how == BIND) {
                continue;
            }
            int right = valueOf(testOperand[test], variable);
            if (!compares(left, how, right)) {
                return false;
            }
        }
        return true;
    }

    private static boolean compares(int left, int how, int right) {
        if (how == EQUAL) {
            return left == right;
        }
        if (how == DIFFERENT) {
            return left != right;
        }
        return left < right;
    }

    // An odd operand names a variable that was looked at when the rule was built; the mask keeps any index inside.
    private static int valueOf(int operand, int[] variables) {
        int half = operand >> 1;
        return (operand & 1) == 0 ? half : variables[half & (VARIABLES - 1)];
    }

    private void beginFiring(int candidate) {
        marked[candidate] = true;
        readVariables(candidate, firedVariable);
        for (int j = 0; j < MAX_POSITIVE; j++) {
            firedFact[j] = givenFact(candidate, j);
        }
    }

    private void perform(int action) {
        int operand = actionOperand[action * FIELDS];
        switch (actionWhat[action]) {
            case MAKE:
                makeFact(action);
                break;
            case DROP:
                eraseFact(firedFact[operand]);
                break;
            case PRINT:
                // A mask, not a remainder: the index stays inside even if the count should run over.
                printedNumber[printedCount & (PLACES - 1)] = valueOf(operand, firedVariable);
                printedCount++;
                break;
            default:
                // HALT changes nothing here: run() looks at halts[] when the firing is over.
                break;
        }
    }

    private void makeFact(int action) {
        int base = action * FIELDS;
        int x = valueOf(actionOperand[base], firedVariable);
        int y = valueOf(actionOperand[base + 1], firedVariable);
        int z = valueOf(actionOperand[base + 2], firedVariable);
        storeFact(actionKind[action], x, y, z);
    }

    private boolean isWaiting(int candidate) {
        return exists[candidate] && !marked[candidate];
    }

    private int candidateAt(int k) {
        if (k < 0 || k >= PLACES) {
            return NONE;
        }
        int candidate = firstAfter(NONE);
        for (int place = 0; place < k && candidate != NONE; place++) {
            candidate = firstAfter(candidate);
        }
        return candidate;
    }

    private int firstAfter(int previous) {
        int first = NONE;
        for (int candidate = 0; candidate < CANDIDATES; candidate++) {
            if (!isWaiting(candidate) || previous != NONE && !precedes(previous, candidate)) {
                continue;
            }
            if (first == NONE || precedes(candidate, first)) {
                first = candidate;
            }
        }
        return first;
    }

    private boolean precedes(int one, int other) {
        int oneRule = one / COMBINATIONS;
        int otherRule = other / COMBINATIONS;
        if (salienceOf[oneRule] != salienceOf[otherRule]) {
            return salienceOf[oneRule] > salienceOf[otherRule];
        }
        for (int rank = 0; rank < MAX_POSITIVE; rank++) {
            int oneFact = rankedFact(one, rank);
            int otherFact = rankedFact(other, rank);
            if (oneFact != otherFact) {
                return oneFact > otherFact;
            }
        }
        if (testTotal[oneRule] != testTotal[otherRule]) {
            return testTotal[oneRule] > testTotal[otherRule];
        }
        if (oneRule != otherRule) {
            return oneRule < otherRule;
        }
        for (int j = 0; j < MAX_POSITIVE; j++) {
            int oneFact = givenFact(one, j);
            int otherFact = givenFact(other, j);
            if (oneFact != otherFact) {
                return oneFact > otherFact;
            }
        }
        return false;
    }

    // The 0 that stands for a missing fact is less than every number, so the longer list comes first.
    private int rankedFact(int candidate, int rank) {
        int a = givenFact(candidate, 0);
        int b = givenFact(candidate, 1);
        int c = givenFact(candidate, 2);
        int high = a > b ? a : b;
        int low = a > b ? b : a;
        if (rank == 0) {
            return c > high ? c : high;
        }
        if (rank == MAX_POSITIVE - 1) {
            return c < low ? c : low;
        }
        if (c > high) {
            return high;
        }
        return c < low ? low : c;
    }

    private int givenFact(int candidate, int j) {
        if (j >= positiveCount[candidate / COMBINATIONS]) {
            return 0;
        }
        return factNumber[combinationSlot[candidate % COMBINATIONS * MAX_POSITIVE + j]];
    }
}
