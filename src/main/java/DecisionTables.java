/**
 * Decision tables, one using the results of others, and what can be said of them.
 *
 * <p>A combination of values in a table's columns is held as a case is: the first column's value
 * + 8 * the second one's + 64 * the third one's. A set of rules is held as bits, bit r for rule r.
 */
public final class DecisionTables {
    public static final int BAD = -1;
    public static final int FULL = -2;
    public static final int NONE = -3;

    private static final int VARIABLES = 8;
    private static final int VALUES = 8;
    private static final int INPUTS = 3;
    private static final int CASES = 512;
    private static final int TABLES = 5;
    private static final int COLUMNS = 3;
    private static final int POLICIES = 6;
    private static final int RULES = 8;
    private static final int COLUMN_PLACES = TABLES * COLUMNS;
    private static final int RULE_PLACES = TABLES * RULES;
    private static final int ABSENT = 9;
    private static final int GREATEST_COLUMNS = 999;
    private static final int GREATEST_SETS = 16777215;
    private static final int GREATEST_VALUE = 7;

    private static final int TAKE_FIRST = 0;
    private static final int TAKE_LAST = 1;
    private static final int TAKE_SMALLEST = 2;
    private static final int TAKE_GREATEST = 3;
    private static final int TAKE_SUM = 4;

    private int tables = 0;

    // Of table t: entry t.
    private final int[] widths = new int[TABLES];
    private final int[] policies = new int[TABLES];
    private final int[] defaults = new int[TABLES];
    private final int[] ruleCounts = new int[TABLES];

    // Of column c of table t: entry COLUMNS * t + c.
    private final int[] columnVariables = new int[COLUMN_PLACES];

    // Of rule r of table t: entry RULES * t + r.
    private final int[] ruleSets = new int[RULE_PLACES];
    private final int[] ruleResults = new int[RULE_PLACES];

    // The variables' values in the case that was looked at last.
    private final int[] values = new int[VARIABLES];

    public DecisionTables() {
    }

    public int table(int columns, int policy, int otherwise) {
        if (tables == TABLES) {
            return FULL;
        }
        if (columns < 0 || columns > GREATEST_COLUMNS) {
            return BAD;
        }
        if (policy < 0 || policy >= POLICIES || !isValue(otherwise)) {
            return BAD;
        }
        int first = columns % 10;
        int second = columns / 10 % 10;
        int third = columns / 100;
        if (!areColumns(first, second, third)) {
            return BAD;
        }
        int t = tables;
        columnVariables[COLUMNS * t] = first;
        columnVariables[COLUMNS * t + 1] = second;
        columnVariables[COLUMNS * t + 2] = third;
        widths[t] = second == ABSENT ? 1 : third == ABSENT ? 2 : 3;
        policies[t] = policy;
        defaults[t] = otherwise;
        ruleCounts[t] = 0;
        tables++;
        return t;
    }

    public int rule(int t, int sets, int result) {
        if (!isTable(t)) {
            return BAD;
        }
        if (ruleCounts[t] == RULES) {
            return FULL;
        }
        if (sets < 0 || sets > GREATEST_SETS || !isValue(result)) {
            return BAD;
        }
        int place = RULES * t + ruleCounts[t];
        ruleSets[place] = sets;
        ruleResults[place] = result;
        ruleCounts[t]++;
        return ruleCounts[t];
    }

    public int unrule(int t) {
        if (!isTable(t) || ruleCounts[t] == 0) {
            return BAD;
        }
        ruleCounts[t]--;
        return ruleCounts[t];
    }

    public int drop() {
        if (tables == 0) {
            return BAD;
        }
        tables--;
        return tables;
    }

    public int value(int v, int at) {
        if (!isVariable(v) || !isCase(at)) {
            return BAD;
        }
        return valueIn(v, at);
    }

    public int fires(int t, int at) {
        if (!isTable(t) || !isCase(at)) {
            return BAD;
        }
        return firingIn(t, at);
    }

    public int gaps(int t) {
        if (!isTable(t)) {
            return BAD;
        }
        int combinations = combinationsOf(t);
        int found = 0;
        for (int k = 0; k < combinations; k++) {
            if (firingAt(t, k) == 0) {
                found++;
            }
        }
        return found;
    }

    public int overlaps(int t) {
        if (!isTable(t)) {
            return BAD;
        }
        int found = 0;
        for (int r = 0; r < ruleCounts[t]; r++) {
            for (int s = r + 1; s < ruleCounts[t]; s++) {
                if (meet(t, r, s)) {
                    found++;
                }
            }
        }
        return found;
    }

    public int needless(int t) {
        if (!isTable(t)) {
            return BAD;
        }
        int found = 0;
        for (int r = 0; r < ruleCounts[t]; r++) {
            if (isNeedless(t, r)) {
                found |= 1 << r;
            }
        }
        return found;
    }

    public int unreached(int t) {
        if (!isTable(t)) {
            return BAD;
        }
        int reached = 0;
        for (int at = 0; at < CASES; at++) {
            reached |= firingIn(t, at);
        }
        int all = (1 << ruleCounts[t]) - 1;
        return all & ~reached;
    }

    public int count(int v, int x) {
        if (!isVariable(v) || !isValue(x)) {
            return BAD;
        }
        int found = 0;
        for (int at = 0; at < CASES; at++) {
            if (valueIn(v, at) == x) {
                found++;
            }
        }
        return found;
    }

    public int first(int v, int x) {
        if (!isVariable(v) || !isValue(x)) {
            return BAD;
        }
        for (int at = 0; at < CASES; at++) {
            if (valueIn(v, at) == x) {
                return at;
            }
        }
        return NONE;
    }

    public int possible(int v) {
        if (!isVariable(v)) {
            return BAD;
        }
        int found = 0;
        for (int at = 0; at < CASES; at++) {
            found |= 1 << valueIn(v, at);
        }
        return found;
    }

    public int depends(int v) {
        if (!isVariable(v)) {
            return BAD;
        }
        int found = 0;
        for (int i = 0; i < INPUTS; i++) {
            for (int at = 0; at < CASES; at++) {
                // If two cases along this input differ, one of them differs from the lowest.
                int here = valueIn(v, at);
                int lowest = valueIn(v, at & ~(7 << (3 * i)));
                if (here != lowest) {
                    found |= 1 << i;
                }
            }
        }
        return found;
    }

    public boolean rising(int v, int i) {
        if (!isVariable(v) || i < 0 || i >= INPUTS) {
            return false;
        }
        for (int at = 0; at < CASES; at++) {
            // Neighbours are enough: a fall over a longer way has a fall between two of them.
            if (inputIn(i, at) > 0) {
                int here = valueIn(v, at);
                int below = valueIn(v, at - (1 << (3 * i)));
                if (here < below) {
                    return false;
                }
            }
        }
        return true;
    }

    public boolean same(int v, int w) {
        if (!isVariable(v) || !isVariable(w)) {
            return false;
        }
        for (int at = 0; at < CASES; at++) {
            settle(at);
            if (values[v] != values[w]) {
                return false;
            }
        }
        return true;
    }

    private boolean isTable(int t) {
        return t >= 0 && t < tables;
    }

    private boolean isVariable(int v) {
        return v >= 0 && v < VARIABLES;
    }

    private boolean isValue(int x) {
        return x >= 0 && x < VALUES;
    }

    private boolean isCase(int at) {
        return at >= 0 && at < CASES;
    }

    /** Whether the next table to be made may have these columns. */
    private boolean areColumns(int first, int second, int third) {
        if (first == ABSENT || (second == ABSENT && third != ABSENT)) {
            return false;
        }
        if (!isColumn(first) || !isColumn(second) || !isColumn(third)) {
            return false;
        }
        // Two absent columns bear the same number, but are not two columns with one variable.
        return first != second && first != third && (second != third || second == ABSENT);
    }

    private boolean isColumn(int variable) {
        return variable == ABSENT || variable < INPUTS + tables;
    }

    private int combinationsOf(int t) {
        return 1 << (3 * widths[t]);
    }

    /** The rules of table t that fire in a combination of values in its columns. */
    private int firingAt(int t, int combination) {
        // One bit for each column that is there, at the place of its value in a rule's sets.
        int needed = 0;
        for (int c = 0; c < widths[t]; c++) {
            int x = (combination >> (3 * c)) & 7;
            needed |= 1 << (8 * c + x);
        }
        int firing = 0;
        for (int r = 0; r < ruleCounts[t]; r++) {
            if ((ruleSets[RULES * t + r] & needed) == needed) {
                firing |= 1 << r;
            }
        }
        return firing;
    }

    /** The result of table t when these rules of it fire. */
    private int resultOf(int t, int firing) {
        int result = defaults[t];
        boolean any = false;
        for (int r = 0; r < ruleCounts[t]; r++) {
            if (((firing >> r) & 1) == 1) {
                int next = ruleResults[RULES * t + r];
                result = any ? joined(t, result, next) : next;
                any = true;
            }
        }
        return result;
    }

    /** The result of table t when another rule fires after those that gave the result so far. */
    private int joined(int t, int sofar, int next) {
        switch (policies[t]) {
            case TAKE_FIRST:
                return sofar;
            case TAKE_LAST:
                return next;
            case TAKE_SMALLEST:
                return next < sofar ? next : sofar;
            case TAKE_GREATEST:
                return next > sofar ? next : sofar;
            case TAKE_SUM:
                return sofar + next > GREATEST_VALUE ? GREATEST_VALUE : sofar + next;
            default:
                return defaults[t];
        }
    }

    /** Whether rules r and s of table t fire together in some combination. */
    private boolean meet(int t, int r, int s) {
        int shared = ruleSets[RULES * t + r] & ruleSets[RULES * t + s];
        for (int c = 0; c < widths[t]; c++) {
            if (((shared >> (8 * c)) & 255) == 0) {
                return false;
            }
        }
        return true;
    }

    /** Whether table t has the same results in all combinations without its rule r. */
    private boolean isNeedless(int t, int r) {
        int combinations = combinationsOf(t);
        for (int k = 0; k < combinations; k++) {
            int firing = firingAt(t, k);
            int whole = resultOf(t, firing);
            int without = resultOf(t, firing & ~(1 << r));
            if (whole != without) {
                return false;
            }
        }
        return true;
    }

    private int inputIn(int i, int at) {
        return (at >> (3 * i)) & 7;
    }

    private int valueIn(int v, int at) {
        settle(at);
        return values[v];
    }

    private int firingIn(int t, int at) {
        settle(at);
        int combination = combinationNow(t);
        return firingAt(t, combination);
    }

    /** Gives every variable its value in a case. */
    private void settle(int at) {
        for (int i = 0; i < INPUTS; i++) {
            values[i] = inputIn(i, at);
        }
        // In this order, since a table's columns have variables of earlier tables only.
        for (int t = 0; t < tables; t++) {
            int combination = combinationNow(t);
            int firing = firingAt(t, combination);
            values[INPUTS + t] = resultOf(t, firing);
        }
        for (int v = INPUTS + tables; v < VARIABLES; v++) {
            values[v] = 0;
        }
    }

    /** The combination in table t's columns in the case that was settled last. */
    private int combinationNow(int t) {
        int combination = 0;
        for (int c = 0; c < widths[t]; c++) {
            combination |= values[columnVariables[COLUMNS * t + c]] << (3 * c);
        }
        return combination;
    }
}
