/** Each promise by itself: ordinary inputs, the edges that the document names, wrong inputs. */
public final class PromisesTest {
    private static final int BAD = -1;
    private static final int FULL = -2;
    private static final int NONE = -3;
    private static final int ANY = 255;
    private static final int[] OUTSIDE_8 = {Integer.MIN_VALUE, -1, 8, 9, Integer.MAX_VALUE};
    private static final int[] OUTSIDE_CASES = {Integer.MIN_VALUE, -1, 512, 513, Integer.MAX_VALUE};

    private static int wrong = 0;

    public static void main(String[] args) {
        newObject();
        tableColumns();
        tableColumnsOfTables();
        tableOtherArguments();
        tableFull();
        rule();
        ruleOrderOfTests();
        unrule();
        drop();
        valueOfInputs();
        valueByPolicy();
        valueThroughTables();
        fires();
        gaps();
        overlaps();
        needless();
        needlessByItself();
        unreached();
        count();
        first();
        possible();
        depends();
        rising();
        same();
        System.out.println(wrong == 0 ? "all promises hold" : wrong + " answers are not as due");
        if (wrong != 0) {
            System.exit(1);
        }
    }

    private static void due(String what, long got, long want) {
        if (got != want) {
            wrong++;
            System.out.println(what + " answered " + got + ", due is " + want);
        }
    }

    private static void due(String what, boolean got, boolean want) {
        due(what, got ? 1 : 0, want ? 1 : 0);
    }

    private static int sets(int first, int second, int third) {
        return first + 256 * second + 65536 * third;
    }

    private static int one(int x) {
        return 1 << x;
    }

    private static int at(int a, int b, int c) {
        return a + 8 * b + 64 * c;
    }

    /** A table of input 0 alone whose rule r fires for the values in sets[r]. */
    private static DecisionTables single(int policy, int otherwise, int[] sets, int[] results) {
        DecisionTables x = new DecisionTables();
        x.table(990, policy, otherwise);
        for (int r = 0; r < sets.length; r++) {
            x.rule(0, sets[r], results[r]);
        }
        return x;
    }

    private static void newObject() {
        due("1: drop of a new object", new DecisionTables().drop(), BAD);
        DecisionTables x = new DecisionTables();
        for (int t = 0; t < 5; t++) {
            due("1: gaps " + t, x.gaps(t), BAD);
            due("1: possible " + (3 + t), x.possible(3 + t), 1);
        }
        due("1: the first table's number", x.table(990, 0, 0), 0);
        DecisionTables other = new DecisionTables();
        due("1: objects share nothing", other.gaps(0), BAD);
        due("1: BAD", DecisionTables.BAD, -1);
        due("1: FULL", DecisionTables.FULL, -2);
        due("1: NONE", DecisionTables.NONE, -3);
    }

    private static boolean mayBeColumns(int columns, int limit) {
        int a = columns % 10;
        int b = columns / 10 % 10;
        int c = columns / 100;
        boolean thereAreBelow = (a == 9 || a < limit) && (b == 9 || b < limit) && (c == 9 || c < limit);
        boolean different = !(a == b && a != 9) && !(a == c && a != 9) && !(b == c && b != 9);
        return thereAreBelow && different && a != 9 && !(c != 9 && b == 9);
    }

    private static void tableColumns() {
        for (int made = 0; made < 5; made++) {
            for (int columns = 0; columns <= 999; columns++) {
                DecisionTables x = new DecisionTables();
                for (int t = 0; t < made; t++) {
                    x.table(990, 0, 0);
                }
                int want = mayBeColumns(columns, 3 + made) ? made : BAD;
                due("2: table " + made + " with columns " + columns, x.table(columns, 0, 0), want);
                due("2: tables after it", x.gaps(made), want == BAD ? BAD : gapsOfEmpty(columns));
            }
        }
        for (int columns : new int[] {Integer.MIN_VALUE, -1000, -10, -1, 1000, 1210, Integer.MAX_VALUE}) {
            due("2: columns " + columns, new DecisionTables().table(columns, 0, 0), BAD);
        }
        due("2: one column", new DecisionTables().table(992, 0, 0), 0);
        due("2: two columns", new DecisionTables().table(902, 0, 0), 0);
        due("2: three columns", new DecisionTables().table(12, 0, 0), 0);
        due("2: first not there", new DecisionTables().table(999, 0, 0), BAD);
        due("2: first not there, second is", new DecisionTables().table(919, 0, 0), BAD);
        due("2: third there, second not", new DecisionTables().table(290, 0, 0), BAD);
    }

    private static int gapsOfEmpty(int columns) {
        return columns / 10 == 99 ? 8 : columns / 100 == 9 ? 64 : 512;
    }

    private static void tableColumnsOfTables() {
        DecisionTables x = new DecisionTables();
        due("2: its own result", x.table(993, 0, 0), BAD);
        due("2: input 2", x.table(992, 0, 0), 0);
        due("2: its own result", x.table(994, 0, 0), BAD);
        due("2: the result before", x.table(993, 0, 0), 1);
        due("2: a result to come", x.table(906, 0, 0), BAD);
        due("2: the two before", x.table(934, 0, 0), 2);
        due("2: the three before", x.table(345, 0, 0), 3);
        due("2: its own result third", x.table(701, 0, 0), BAD);
        due("2: variable 8", x.table(998, 0, 0), BAD);
        due("2: the greatest that may be", x.table(654, 0, 0), 4);
    }

    private static void tableOtherArguments() {
        for (int policy = 0; policy < 6; policy++) {
            due("2: policy " + policy, new DecisionTables().table(990, policy, 0), 0);
        }
        for (int policy : new int[] {Integer.MIN_VALUE, -1, 6, 7, Integer.MAX_VALUE}) {
            due("2: policy " + policy, new DecisionTables().table(990, policy, 0), BAD);
        }
        for (int otherwise = 0; otherwise < 8; otherwise++) {
            DecisionTables x = new DecisionTables();
            due("2: default " + otherwise, x.table(990, 0, otherwise), 0);
            due("2: its value", x.value(3, 77), otherwise);
        }
        for (int otherwise : OUTSIDE_8) {
            DecisionTables x = new DecisionTables();
            due("2: default " + otherwise, x.table(990, 0, otherwise), BAD);
            due("2: nothing made", x.drop(), BAD);
        }
    }

    private static void tableFull() {
        DecisionTables x = new DecisionTables();
        for (int t = 0; t < 5; t++) {
            due("2: table " + t, x.table(990, 0, 0), t);
        }
        due("2: a sixth", x.table(990, 0, 0), FULL);
        due("2: FULL before bad columns", x.table(-1, 0, 0), FULL);
        due("2: FULL before a bad policy", x.table(990, 6, 0), FULL);
        due("2: FULL before a bad default", x.table(990, 0, 8), FULL);
        due("2: room again", x.drop(), 4);
        due("2: bad columns with room", x.table(-1, 0, 0), BAD);
        due("2: the fifth again", x.table(990, 0, 0), 4);
    }

    private static void rule() {
        DecisionTables x = new DecisionTables();
        x.table(210, 0, 7);
        x.table(990, 0, 7);
        due("3: a first rule", x.rule(0, sets(one(1), one(2), one(3)), 4), 1);
        due("3: a second rule", x.rule(0, sets(one(1), one(2), one(4)), 5), 2);
        due("3: a rule of another table", x.rule(1, one(6), 0), 1);
        due("3: value by the first", x.value(3, at(1, 2, 3)), 4);
        due("3: value by the second", x.value(3, at(1, 2, 4)), 5);
        due("3: value by none", x.value(3, at(2, 1, 3)), 7);
        due("3: value of the other", x.value(4, at(6, 0, 0)), 0);
        due("3: greatest sets and result", x.rule(1, 16777215, 7), 2);
        due("3: smallest sets and result", x.rule(1, 0, 0), 3);
        DecisionTables y = new DecisionTables();
        y.table(990, 0, 0);
        y.table(910, 0, 0);
        y.rule(0, sets(one(3), 0, 0), 1);
        y.rule(1, sets(one(3), one(4), 0), 1);
        due("3: sets of absent columns play no part", y.value(3, at(3, 7, 7)), 1);
        due("3: set of an absent third column plays no part", y.value(4, at(3, 4, 7)), 1);
        due("3: set of the second does", y.value(4, at(3, 5, 7)), 0);
    }

    private static void ruleOrderOfTests() {
        DecisionTables x = new DecisionTables();
        due("3: no table", x.rule(0, 0, 0), BAD);
        x.table(990, 0, 0);
        for (int t : new int[] {Integer.MIN_VALUE, -1, 1, 4, 5, Integer.MAX_VALUE}) {
            due("3: no table " + t, x.rule(t, 0, 0), BAD);
        }
        for (int sets : new int[] {Integer.MIN_VALUE, -1, 16777216, Integer.MAX_VALUE}) {
            due("3: sets " + sets, x.rule(0, sets, 0), BAD);
        }
        for (int result : OUTSIDE_8) {
            due("3: result " + result, x.rule(0, 0, result), BAD);
        }
        due("3: nothing added", x.unrule(0), BAD);
        for (int r = 1; r <= 8; r++) {
            due("3: rule " + r, x.rule(0, 255, 1), r);
        }
        due("3: a ninth", x.rule(0, 255, 1), FULL);
        due("3: FULL before bad sets", x.rule(0, -1, 1), FULL);
        due("3: FULL before a bad result", x.rule(0, 0, 8), FULL);
        due("3: BAD table before FULL", x.rule(1, 0, 0), BAD);
        x.table(991, 0, 0);
        due("3: room in another table", x.rule(1, 0, 0), 1);
    }

    private static void unrule() {
        DecisionTables x = new DecisionTables();
        due("4: no table", x.unrule(0), BAD);
        x.table(990, 1, 6);
        due("4: no rule", x.unrule(0), BAD);
        x.rule(0, ANY, 1);
        x.rule(0, ANY, 2);
        x.table(991, 1, 0);
        x.rule(1, ANY, 5);
        due("4: before", x.value(3, 0), 2);
        due("4: one left", x.unrule(0), 1);
        due("4: the last one went", x.value(3, 0), 1);
        due("4: the other table keeps its own", x.value(4, 0), 5);
        due("4: none left", x.unrule(0), 0);
        due("4: the default", x.value(3, 0), 6);
        due("4: no rule any more", x.unrule(0), BAD);
        due("4: a rule again", x.rule(0, one(3), 4), 1);
        due("4: its value", x.value(3, 3), 4);
        for (int t : new int[] {Integer.MIN_VALUE, -1, 2, 5, Integer.MAX_VALUE}) {
            due("4: no table " + t, x.unrule(t), BAD);
        }
    }

    private static void drop() {
        DecisionTables x = new DecisionTables();
        due("5: none there", x.drop(), BAD);
        x.table(990, 0, 1);
        x.table(210, 3, 2);
        x.rule(1, 16777215, 5);
        x.table(993, 0, 3);
        due("5: two left", x.drop(), 2);
        due("5: the last one's result", x.value(5, 0), 0);
        due("5: it is no table", x.gaps(2), BAD);
        due("5: the one before stays", x.value(4, 0), 5);
        due("5: one left", x.drop(), 1);
        due("5: a new one in its place", x.table(992, 0, 4), 1);
        due("5: has no rules", x.unrule(1), BAD);
        due("5: has its own columns", x.gaps(1), 8);
        due("5: and default", x.value(4, 0), 4);
        due("5: one left", x.drop(), 1);
        due("5: none left", x.drop(), 0);
        due("5: none there", x.drop(), BAD);
        due("5: no result", x.value(3, 0), 0);
    }

    private static void valueOfInputs() {
        // Three objects, since one answers 512 calls.
        DecisionTables forInput0 = new DecisionTables();
        DecisionTables forInput1 = new DecisionTables();
        DecisionTables forInput2 = new DecisionTables();
        for (int at = 0; at < 512; at++) {
            due("6: input 0 in " + at, forInput0.value(0, at), at % 8);
            due("6: input 1 in " + at, forInput1.value(1, at), at / 8 % 8);
            due("6: input 2 in " + at, forInput2.value(2, at), at / 64);
        }
        DecisionTables x = new DecisionTables();
        for (int v = 3; v < 8; v++) {
            due("6: no table for " + v, x.value(v, 511), 0);
        }
        for (int v : OUTSIDE_8) {
            due("6: variable " + v, x.value(v, 0), BAD);
        }
        for (int at : OUTSIDE_CASES) {
            due("6: case " + at, x.value(0, at), BAD);
            due("6: case " + at + " without a table", x.value(7, at), BAD);
        }
    }

    private static void valueByPolicy() {
        // Value 0: rules 0, 1, 2 fire; 1: rules 1 and 2; 2: rule 2 alone; 3: none.
        int[] sets = {1, 3, 7};
        int[][] wants = {
            // results 3, 1, 2; default 6
            {3, 1, 2, 6}, {2, 2, 2, 6}, {1, 1, 2, 6}, {3, 2, 2, 6}, {6, 3, 2, 6}, {6, 6, 2, 6}};
        for (int policy = 0; policy < 6; policy++) {
            DecisionTables x = single(policy, 6, sets, new int[] {3, 1, 2});
            for (int at = 0; at < 4; at++) {
                due("6: policy " + policy + " in " + at, x.value(3, at), wants[policy][at]);
            }
        }
        DecisionTables sum = single(4, 1, sets, new int[] {1, 5, 2});
        due("6: a sum of 8 is 7", sum.value(3, 0), 7);
        due("6: a sum of 7", sum.value(3, 1), 7);
        DecisionTables most = single(4, 0, new int[] {1, 1, 1, 1, 1, 1, 1, 1}, new int[] {7, 7, 7, 7, 7, 7, 7, 7});
        due("6: a sum of 56 is 7", most.value(3, 0), 7);
        DecisionTables zero = single(4, 5, sets, new int[] {0, 0, 0});
        due("6: a sum of nothing but 0", zero.value(3, 0), 0);
        DecisionTables only = single(5, 4, sets, new int[] {2, 2, 2});
        due("6: several with one result are several", only.value(3, 1), 4);
        DecisionTables least = single(2, 0, sets, new int[] {5, 6, 7});
        due("6: the default is not among the smallest", least.value(3, 0), 5);
        DecisionTables greatest = single(3, 7, sets, new int[] {0, 1, 0});
        due("6: the default is not among the greatest", greatest.value(3, 0), 1);
    }

    /** Each table answers one more than its column's variable, at most 7: a chain of all five. */
    private static DecisionTables chain() {
        DecisionTables x = new DecisionTables();
        for (int t = 0; t < 5; t++) {
            x.table(990 + (t == 0 ? 0 : 2 + t), 0, 7);
            for (int value = 0; value < 7; value++) {
                x.rule(t, one(value), value + 1);
            }
        }
        return x;
    }

    private static void valueThroughTables() {
        DecisionTables x = chain();
        for (int v = 3; v < 8; v++) {
            for (int a = 0; a < 8; a++) {
                due("6: link " + v + " from " + a, x.value(v, at(a, 3, 5)), Math.min(7, a + v - 2));
            }
        }
    }

    private static void fires() {
        DecisionTables x = new DecisionTables();
        due("7: no table", x.fires(0, 0), BAD);
        x.table(102, 0, 0);
        due("7: no rules", x.fires(0, 0), 0);
        x.rule(0, sets(one(5), one(6), one(7)), 1);
        x.rule(0, sets(one(5) | one(4), ANY, ANY), 1);
        x.rule(0, sets(ANY, ANY, 0), 1);
        // columns: first input 2, second input 0, third input 1
        due("7: both", x.fires(0, at(6, 7, 5)), 3);
        due("7: second alone", x.fires(0, at(6, 6, 5)), 2);
        due("7: second alone", x.fires(0, at(0, 0, 4)), 2);
        due("7: none", x.fires(0, at(6, 7, 3)), 0);
        x.table(913, 0, 0);
        x.rule(1, sets(one(1), one(7), 0), 1);
        due("7: by another table's result", x.fires(1, at(6, 7, 5)), 1);
        due("7: by another table's result", x.fires(1, at(6, 7, 3)), 0);
        DecisionTables y = single(0, 0, new int[] {1, 1, 1, 1, 1, 1, 1, 1}, new int[8]);
        due("7: all eight", y.fires(0, 0), 255);
        due("7: none of eight", y.fires(0, 1), 0);
        for (int t : new int[] {Integer.MIN_VALUE, -1, 1, 5, Integer.MAX_VALUE}) {
            due("7: no table " + t, y.fires(t, 0), BAD);
        }
        for (int at : OUTSIDE_CASES) {
            due("7: case " + at, y.fires(0, at), BAD);
        }
        y.unrule(0);
        due("7: seven left", y.fires(0, 0), 127);
    }

    private static void noTable(String what, java.util.function.IntUnaryOperator call) {
        for (int t : new int[] {Integer.MIN_VALUE, -1, 1, 4, 5, Integer.MAX_VALUE}) {
            due(what + ": no table " + t, call.applyAsInt(t), BAD);
        }
    }

    private static void gaps() {
        DecisionTables x = new DecisionTables();
        due("8: no table", x.gaps(0), BAD);
        x.table(210, 0, 0);
        noTable("8", x::gaps);
        due("8: no rules, three columns", x.gaps(0), 512);
        x.rule(0, sets(15, 3, 1), 1);
        due("8: 4 * 2 * 1 covered", x.gaps(0), 504);
        x.rule(0, sets(15, 1, 3), 1);
        due("8: 4 more covered", x.gaps(0), 500);
        x.rule(0, 16777215, 1);
        due("8: all covered", x.gaps(0), 0);
        x.table(910, 0, 0);
        due("8: no rules, two columns", x.gaps(1), 64);
        x.rule(1, sets(7, 7, 0), 1);
        due("8: 9 covered", x.gaps(1), 55);
        x.table(993, 0, 0);
        due("8: no rules, one column", x.gaps(2), 8);
        // Variable 3 is 1 in all cases, and yet by itself the table has 7 gaps.
        x.rule(2, one(1), 1);
        due("8: by itself", x.gaps(2), 7);
    }

    private static void overlaps() {
        DecisionTables x = new DecisionTables();
        due("9: no table", x.overlaps(0), BAD);
        x.table(910, 0, 0);
        noTable("9", x::overlaps);
        due("9: no rules", x.overlaps(0), 0);
        x.rule(0, sets(3, 3, 0), 1);
        due("9: one rule", x.overlaps(0), 0);
        x.rule(0, sets(2, 12, 0), 1);
        due("9: the second column apart", x.overlaps(0), 0);
        x.rule(0, sets(2, 6, 0), 1);
        due("9: meets both", x.overlaps(0), 2);
        x.rule(0, sets(0, ANY, ANY), 1);
        due("9: never fires", x.overlaps(0), 2);
        x.rule(0, sets(4, ANY, ANY), 1);
        due("9: the first column apart", x.overlaps(0), 2);
        x.table(210, 0, 0);
        x.rule(1, sets(1, 1, 1), 1);
        x.rule(1, sets(1, 1, 2), 1);
        due("9: the third column apart", x.overlaps(1), 0);
        x.table(994, 0, 0);
        // Variable 4 has values 0 and 1 alone: by itself the rules overlap in 7 all the same.
        x.rule(2, one(7), 1);
        x.rule(2, one(7) | one(1), 1);
        due("9: by itself", x.overlaps(2), 1);
        DecisionTables y = single(0, 0, new int[] {ANY, ANY, ANY, ANY, ANY, ANY, ANY, ANY}, new int[8]);
        due("9: all couples of eight", y.overlaps(0), 28);
        y.unrule(0);
        due("9: all couples of seven", y.overlaps(0), 21);
        DecisionTables z = new DecisionTables();
        z.table(210, 0, 0);
        z.rule(0, sets(one(7), one(0), one(7)), 1);
        z.rule(0, sets(one(7), one(7), one(0)), 1);
        z.rule(0, sets(one(0), one(7), one(7)), 1);
        due("9: each couple shares one column's value", z.overlaps(0), 0);
        z.rule(0, sets(one(7) | one(0), one(7), one(7) | one(0)), 1);
        due("9: meets two of them", z.overlaps(0), 2);
        for (int a = 0; a < 8; a++) {
            for (int b = 0; b < 8; b++) {
                DecisionTables w = new DecisionTables();
                w.table(210, 0, 0);
                w.rule(0, sets(ANY, one(a), ANY - one(b)), 1);
                w.rule(0, sets(ANY, one(b), ANY), 1);
                w.rule(0, sets(ANY, ANY, one(b)), 1);
                due("9: second column " + a + " and " + b, w.overlaps(0), a == b ? 2 : 1);
            }
        }
    }

    private static void needless() {
        noTable("10", single(0, 0, new int[0], new int[0])::needless);
        due("10: no table", new DecisionTables().needless(0), BAD);
        due("10: no rules", single(0, 0, new int[0], new int[0]).needless(0), 0);
        int[] nested = {1, 3, 7};
        int[] results = {3, 1, 2};
        // Rule 2 alone fires in value 2, so it is always needed. By the last one only it is heard;
        // the smallest hears rule 1 where rule 0 fires, the greatest rule 0 or 2 where rule 1 does;
        // where rule 0 fires two others do, so the only one does not need it.
        int[] wants = {0, 3, 1, 2, 0, 1};
        for (int policy = 0; policy < 6; policy++) {
            due("10: policy " + policy, single(policy, 6, nested, results).needless(0), wants[policy]);
        }
        due("10: the default's result", single(0, 4, new int[] {5}, new int[] {4}).needless(0), 1);
        due("10: never fires", single(3, 4, new int[] {0, 1}, new int[] {7, 5}).needless(0), 1);
        due("10: each of two alike, alone", single(0, 0, new int[] {6, 6}, new int[] {5, 5}).needless(0), 3);
        due("10: two alike to the only one", single(5, 0, new int[] {6, 6}, new int[] {5, 5}).needless(0), 0);
        due("10: 0 in a sum", single(4, 3, new int[] {3, 1}, new int[] {5, 0}).needless(0), 2);
        due("10: 0 alone in a sum", single(4, 3, new int[] {1, 3}, new int[] {5, 0}).needless(0), 0);
        due("10: beyond 7 in a sum", single(4, 0, new int[] {1, 1, 1}, new int[] {7, 3, 4}).needless(0), 7);
        due("10: beyond 7 by two", single(4, 0, new int[] {1, 1}, new int[] {7, 3}).needless(0), 2);
    }

    private static void needlessByItself() {
        DecisionTables x = new DecisionTables();
        x.table(990, 0, 1);
        x.table(993, 0, 0);
        // Variable 3 is never 5, but by itself the rule counts.
        x.rule(1, one(5), 2);
        due("10: by itself", x.needless(1), 0);
        due("10: though never reached", x.unreached(1), 1);
        x.table(210, 0, 0);
        x.rule(2, sets(ANY, ANY, one(7)), 3);
        x.rule(2, sets(one(7), one(7), one(7)), 3);
        due("10: covered in three columns", x.needless(2), 2);
        x.rule(2, sets(one(7), one(7), one(7) | one(6)), 3);
        due("10: seen in the combination 7, 7, 6", x.needless(2), 2);
    }

    private static void unreached() {
        DecisionTables x = new DecisionTables();
        due("11: no table", x.unreached(0), BAD);
        x.table(210, 0, 1);
        noTable("11", x::unreached);
        due("11: no rules", x.unreached(0), 0);
        x.rule(0, sets(one(7), one(7), one(7)), 3);
        x.rule(0, sets(ANY, ANY, 0), 4);
        x.rule(0, 16777215, 3);
        due("11: an empty set", x.unreached(0), 2);
        x.rule(0, sets(one(0), one(0), one(0)), 3);
        due("11: the first case alone", x.unreached(0), 2);
        x.unrule(0);
        // Variable 3 is 3 in all cases.
        x.table(993, 0, 0);
        for (int value = 0; value < 8; value++) {
            x.rule(1, one(value), 1);
        }
        due("11: all but value 3", x.unreached(1), 255 - 8);
        x.table(934, 0, 0);
        x.rule(2, sets(one(1), one(3), 0), 1);
        x.rule(2, sets(one(1), one(4), 0), 1);
        due("11: second column not reached", x.unreached(2), 2);
        // Each value comes, but not together: variable 6 is input 0 over again.
        DecisionTables y = new DecisionTables();
        y.table(990, 0, 0);
        for (int value = 0; value < 8; value++) {
            y.rule(0, one(value), value);
        }
        y.table(930, 0, 0);
        y.rule(1, sets(one(2), one(3), 0), 1);
        y.rule(1, sets(one(3), one(3), 0), 1);
        due("11: values that never come together", y.unreached(1), 1);
    }

    private static void count() {
        DecisionTables x = new DecisionTables();
        for (int value = 0; value < 8; value++) {
            for (int v = 0; v < 3; v++) {
                due("12: input " + v, x.count(v, value), 64);
            }
            due("12: no table", x.count(7, value), value == 0 ? 512 : 0);
        }
        x.table(210, 0, 6);
        x.rule(0, sets(3, 7, 15), 5);
        due("12: 2 * 3 * 4", x.count(3, 5), 24);
        x.rule(0, sets(one(7), one(7), one(7)), 4);
        due("12: the last case alone", x.count(3, 4), 1);
        x.unrule(0);
        due("12: the rest", x.count(3, 6), 488);
        due("12: none", x.count(3, 0), 0);
        for (int bad : OUTSIDE_8) {
            due("12: variable " + bad, x.count(bad, 0), BAD);
            due("12: value " + bad, x.count(0, bad), BAD);
        }
    }

    private static void first() {
        DecisionTables x = new DecisionTables();
        due("13: input 0", x.first(0, 7), 7);
        due("13: input 1", x.first(1, 7), 56);
        due("13: input 2", x.first(2, 7), 448);
        due("13: no table", x.first(7, 0), 0);
        due("13: no table", x.first(7, 1), NONE);
        x.table(210, 0, 6);
        x.rule(0, sets(one(7), one(7), one(7)), 5);
        due("13: the last case", x.first(3, 5), 511);
        due("13: the first case", x.first(3, 6), 0);
        due("13: none", x.first(3, 0), NONE);
        x.rule(0, sets(one(2) | one(4), one(3), one(1) | one(0)), 0);
        due("13: the smallest of several", x.first(3, 0), 26);
        for (int bad : OUTSIDE_8) {
            due("13: variable " + bad, x.first(bad, 0), BAD);
            due("13: value " + bad, x.first(0, bad), BAD);
        }
    }

    private static void possible() {
        DecisionTables x = new DecisionTables();
        for (int v = 0; v < 8; v++) {
            due("14: variable " + v, x.possible(v), v < 3 ? 255 : 1);
        }
        x.table(210, 0, 6);
        x.rule(0, sets(one(7), one(7), one(7)), 7);
        x.rule(0, sets(ANY, ANY, 0), 1);
        due("14: by a table", x.possible(3), one(6) | one(7));
        x.rule(0, sets(one(0), one(0), one(0)), 0);
        due("14: in the first case alone", x.possible(3), one(0) | one(6) | one(7));
        x.unrule(0);
        x.table(993, 0, 0);
        x.rule(1, one(5), 1);
        x.rule(1, one(6), 2);
        due("14: by what can come", x.possible(4), one(0) | one(2));
        for (int bad : OUTSIDE_8) {
            due("14: variable " + bad, x.possible(bad), BAD);
        }
    }

    private static void depends() {
        DecisionTables x = new DecisionTables();
        for (int v = 0; v < 8; v++) {
            due("15: variable " + v, x.depends(v), v < 3 ? one(v) : 0);
        }
        x.table(210, 0, 6);
        x.rule(0, sets(ANY, one(7), one(7)), 7);
        due("15: inputs 1 and 2", x.depends(3), 6);
        x.rule(0, sets(one(3), one(7), one(7)), 1);
        due("15: a rule that is not heard", x.depends(3), 6);
        x.table(990, 0, 6);
        x.rule(1, one(7), 6);
        due("15: one result all over", x.depends(4), 0);
        x.table(934, 5, 2);
        x.rule(2, sets(ANY, one(7), 0), 0);
        due("15: through a table", x.depends(5), 6);
        DecisionTables y = single(0, 0, new int[] {one(3), one(4)}, new int[] {1, 1});
        due("15: the same at both ends", y.depends(3), 1);
        for (int bit = 0; bit < 3; bit++) {
            int[] halves = {0b10101010, 0b11001100, 0b11110000};
            DecisionTables half = new DecisionTables();
            half.table(210, 0, 0);
            half.rule(0, sets(halves[bit], ANY, ANY), 1);
            half.table(201, 0, 0);
            half.rule(1, sets(halves[bit], ANY, ANY), 1);
            half.table(102, 0, 0);
            half.rule(2, sets(halves[bit], ANY, ANY), 1);
            due("15: bit " + bit + " of input 0", half.depends(3), 1);
            due("15: bit " + bit + " of input 1", half.depends(4), 2);
            due("15: bit " + bit + " of input 2", half.depends(5), 4);
        }
        DecisionTables z = new DecisionTables();
        z.table(210, 0, 0);
        z.rule(0, sets(one(7), one(7), one(7)), 1);
        due("15: one case alone", z.depends(3), 7);
        for (int bad : OUTSIDE_8) {
            due("15: variable " + bad, x.depends(bad), BAD);
        }
    }

    private static void rising() {
        DecisionTables x = new DecisionTables();
        for (int v = 0; v < 8; v++) {
            for (int i = 0; i < 3; i++) {
                due("16: variable " + v + " by input " + i, x.rising(v, i), true);
            }
        }
        x.table(210, 0, 3);
        x.rule(0, sets(one(7), one(7), one(7)), 2);
        for (int i = 0; i < 3; i++) {
            due("16: falls at the last case, by input " + i, x.rising(3, i), false);
        }
        x.unrule(0);
        x.rule(0, sets(one(7), one(7), one(7)), 4);
        for (int i = 0; i < 3; i++) {
            due("16: rises at the last case, by input " + i, x.rising(3, i), true);
        }
        x.table(910, 0, 4);
        x.rule(1, sets(one(0), ANY, 0), 5);
        due("16: falls by input 0", x.rising(4, 0), false);
        due("16: stays by input 1", x.rising(4, 1), true);
        due("16: stays by input 2", x.rising(4, 2), true);
        DecisionTables dip = single(0, 0, new int[] {one(3)}, new int[] {1});
        due("16: up and down again", dip.rising(3, 0), false);
        DecisionTables steps = single(0, 7, new int[] {3, 12, 48}, new int[] {0, 2, 2});
        due("16: up in steps", steps.rising(3, 0), true);
        due("16: through tables", chain().rising(7, 0), true);
        for (int v : OUTSIDE_8) {
            due("16: variable " + v, x.rising(v, 0), false);
        }
        for (int i : new int[] {Integer.MIN_VALUE, -1, 3, 4, Integer.MAX_VALUE}) {
            due("16: input " + i, x.rising(0, i), false);
            due("16: input " + i + " without a table", x.rising(7, i), false);
        }
    }

    private static void same() {
        DecisionTables x = new DecisionTables();
        for (int v = 0; v < 8; v++) {
            for (int w = 0; w < 8; w++) {
                due("17: " + v + " and " + w, x.same(v, w), v == w || (v > 2 && w > 2));
            }
        }
        x.table(991, 0, 7);
        for (int value = 0; value < 7; value++) {
            x.rule(0, one(value), value);
        }
        due("17: input 1 over again", x.same(1, 3), true);
        due("17: the other way round", x.same(3, 1), true);
        due("17: not input 0", x.same(0, 3), false);
        x.table(210, 0, 0);
        due("17: 0 and no table", x.same(4, 7), true);
        x.rule(1, sets(one(7), one(7), one(7)), 1);
        due("17: but for the last case", x.same(4, 7), false);
        x.unrule(1);
        x.rule(1, sets(one(0), one(0), one(0)), 1);
        due("17: but for the first case", x.same(7, 4), false);
        for (int bad : OUTSIDE_8) {
            due("17: " + bad + " and 0", x.same(bad, 0), false);
            due("17: 0 and " + bad, x.same(0, bad), false);
            due("17: " + bad + " twice", x.same(bad, bad), false);
        }
    }
}
