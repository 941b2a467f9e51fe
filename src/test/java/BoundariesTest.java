import java.util.function.IntBinaryOperator;
import java.util.function.IntUnaryOperator;
import java.util.function.ToIntFunction;

/**
 * The document's boundary cases, sentence by sentence: each sentence, or part of one, that names a
 * case at or beyond a boundary has a test of its own here, under its promise and its words.
 * No object is asked more than 512 times, since the document promises nothing after that.
 */
public final class BoundariesTest {
    private static final int BAD = -1;
    private static final int FULL = -2;
    private static final int NONE = -3;
    private static final int LOWEST = Integer.MIN_VALUE;
    private static final int HIGHEST = Integer.MAX_VALUE;
    private static final int ANY = 255;
    private static final int ALL = 16777215;
    private static final int COLUMNS_0 = 990;
    private static final int COLUMNS_0_1 = 910;
    private static final int COLUMNS_0_1_2 = 210;

    // Beside the next ones on both sides: numbers that a mask, a shift or a product would bring back.
    private static final int[] OUTSIDE_0_TO_7 =
        {LOWEST, LOWEST + 1, -256, -8, -7, -1, 8, 9, 15, 16, 32, 64, 256, 65536, 1 << 29, HIGHEST};
    private static final int[] OUTSIDE_0_TO_511 =
        {LOWEST, LOWEST + 1, -512, -511, -1, 512, 513, 1023, 1024, 65536, 1 << 29, HIGHEST};

    private static int tests = 0;
    private static int failed = 0;
    private static int wrong = 0;

    private static void sentence(String words, Runnable test) {
        int before = wrong;
        try {
            test.run();
        } catch (RuntimeException thrown) {
            wrong++;
            System.out.println("    a call has thrown: " + thrown);
        }
        tests++;
        if (wrong != before) {
            failed++;
            System.out.println("does not hold: " + words);
        }
    }

    private static void due(String call, int got, int want) {
        if (got != want) {
            wrong++;
            System.out.println("    " + call + " answered " + got + ", due is " + want);
        }
    }

    private static void due(String call, boolean got, boolean want) {
        if (got != want) {
            wrong++;
            System.out.println("    " + call + " answered " + got + ", due is " + want);
        }
    }

    private static int sets(int first, int second, int third) {
        return first + 256 * second + 65536 * third;
    }

    private static int one(int x) {
        return 1 << x;
    }

    private static int at(int a, int b, int c) {
        return a + 8 * b + 64 * c;
    }

    private static DecisionTables withTables(int n) {
        DecisionTables x = new DecisionTables();
        for (int t = 0; t < n; t++) {
            x.table(COLUMNS_0, 0, 0);
        }
        return x;
    }

    /** One table over input 0, with a rule for each set. */
    private static DecisionTables over0(int policy, int otherwise, int[] sets, int... results) {
        DecisionTables x = new DecisionTables();
        x.table(COLUMNS_0, policy, otherwise);
        for (int r = 0; r < sets.length; r++) {
            x.rule(0, sets[r], results[r]);
        }
        return x;
    }

    /** One table over all inputs, with one rule that fires in one case alone. */
    private static DecisionTables onlyIn(int a, int b, int c, int result, int otherwise) {
        DecisionTables x = new DecisionTables();
        x.table(COLUMNS_0_1_2, 0, otherwise);
        x.rule(0, sets(one(a), one(b), one(c)), result);
        return x;
    }

    /** One table over input 0 with 8 rules, rule r for value r and with result r: input 0 over again. */
    private static DecisionTables copyOf0() {
        DecisionTables x = withTables(1);
        for (int r = 0; r < 8; r++) {
            x.rule(0, one(r), r);
        }
        return x;
    }

    /** Table 0 answers 1 in all cases, table 1 looks at it alone and has a rule for each set. */
    private static DecisionTables overConstant1(int... sets) {
        DecisionTables x = new DecisionTables();
        x.table(COLUMNS_0, 0, 1);
        x.table(993, 0, 0);
        for (int set : sets) {
            x.rule(1, set, 2);
        }
        return x;
    }

    /** What must be BAD for each t without a table, be it that none was made or that it was dropped. */
    private static void noTable(String name, IntBinaryOperator callOnNewWithTables) {
        for (int made = 0; made <= 5; made++) {
            for (int t : new int[] {LOWEST, LOWEST + 1, -8, -1, 5, 6, 8, 32, 256, 1 << 29, 1 << 30, HIGHEST}) {
                due(name + " of table " + t + " of " + made, callOnNewWithTables.applyAsInt(made, t), BAD);
            }
            for (int t = made; t < 5; t++) {
                due(name + " of table " + t + " of " + made, callOnNewWithTables.applyAsInt(made, t), BAD);
            }
        }
    }

    private static void droppedTable(String name, ToIntFunction<DecisionTables> callOnTable1) {
        DecisionTables x = withTables(2);
        x.rule(1, ANY, 1);
        x.drop();
        due(name + " of a dropped table", callOnTable1.applyAsInt(x), BAD);
    }

    private static void outside0To7(String name, IntUnaryOperator call) {
        for (int bad : OUTSIDE_0_TO_7) {
            due(name + " with " + bad, call.applyAsInt(bad), BAD);
        }
    }

    /** Three tables, the last one over the two before; some 30 calls. */
    private static DecisionTables sample() {
        DecisionTables x = new DecisionTables();
        x.table(COLUMNS_0_1, 4, 5);
        x.rule(0, sets(0b00001111, 0b00110011, 0), 3);
        x.rule(0, sets(0b00111100, 0b01010101, 0), 2);
        x.rule(0, sets(0b10000000, 0b10000000, 0), 7);
        x.table(992, 5, 6);
        for (int r = 0; r < 8; r++) {
            x.rule(1, one(r) | one(7), r);
        }
        x.table(143, 3, 1);
        x.rule(2, sets(0b01000000, 0b00100100, ANY), 4);
        return x;
    }

    /** All that some 200 calls tell of an object with at most five tables. */
    private static String picture(DecisionTables x) {
        StringBuilder seen = new StringBuilder();
        for (int t = 0; t < 5; t++) {
            seen.append(x.gaps(t)).append(' ').append(x.overlaps(t)).append(' ');
            seen.append(x.needless(t)).append(' ').append(x.unreached(t)).append(' ');
            seen.append(x.fires(t, 0)).append(' ').append(x.fires(t, 511)).append(' ');
        }
        for (int v = 0; v < 8; v++) {
            seen.append(x.depends(v)).append(x.rising(v, 0)).append(x.rising(v, 1)).append(x.rising(v, 2));
            for (int value = 0; value < 8; value++) {
                seen.append(' ').append(x.count(v, value)).append(' ').append(x.first(v, value));
            }
        }
        // How much room is left in the tables, and then for tables.
        for (int t = 0; t < 5; t++) {
            seen.append(" rule ").append(x.rule(t, 0, 0));
        }
        for (int t = 0; t < 5; t++) {
            seen.append(" table ").append(x.table(COLUMNS_0, 0, 0));
        }
        return seen.toString();
    }

    private static void changesNothing(String call, ToIntFunction<DecisionTables> refused, int answer) {
        DecisionTables x = sample();
        due(call, refused.applyAsInt(x), answer);
        due("the same picture after " + call, picture(x).equals(picture(sample())), true);
    }

    private static void beforeThePromises() {
        sentence("an object is used for at most 512 calls: the 512th is answered", () -> {
            DecisionTables x = withTables(1);
            for (int call = 2; call <= 510; call += 2) {
                due("call " + call + ", rule", x.rule(0, ANY, call % 8), 1);
                due("call " + (call + 1) + ", unrule", x.unrule(0), 0);
            }
            due("call 512, rule", x.rule(0, 0, 0), 1);
            DecisionTables y = withTables(1);
            for (int call = 2; call <= 510; call += 2) {
                due("call " + call + ", table", y.table(COLUMNS_0, 0, 7), 1);
                due("call " + (call + 1) + ", drop", y.drop(), 1);
            }
            due("call 512, value", y.value(3, 511), 0);
        });
        sentence("there are 8 variables, 0 to 7", () -> {
            DecisionTables x = new DecisionTables();
            for (int v = 0; v < 8; v++) {
                due("value of " + v, x.value(v, 0), 0);
            }
            due("value of -1", x.value(-1, 0), BAD);
            due("value of 8", x.value(8, 0), BAD);
        });
        sentence("values from 0 to 7", () -> {
            DecisionTables x = new DecisionTables();
            for (int v = 0; v < 3; v++) {
                due("possible of input " + v, x.possible(v), 255);
                due("count of 0 for input " + v, x.count(v, 0), 64);
                due("count of 7 for input " + v, x.count(v, 7), 64);
            }
        });
        sentence("variables 0 to 2 are inputs: variable 3 is none", () -> {
            DecisionTables x = new DecisionTables();
            due("value of 2", x.value(2, 511), 7);
            due("value of 3", x.value(3, 511), 0);
            due("depends of 2", x.depends(2), 4);
            due("depends of 3", x.depends(3), 0);
            x.table(992, 0, 6);
            due("value of 3 with a table", x.value(3, 511), 6);
            due("value of 4 with a table", x.value(4, 511), 0);
        });
        sentence("a case is value 0 + 8 * value 1 + 64 * value 2 (0 to 511)", () -> {
            int[] cases = {0, 7, 8, 63, 64, 447, 448, 504, 511};
            int[][] inputs = {{0, 0, 0}, {7, 0, 0}, {0, 1, 0}, {7, 7, 0}, {0, 0, 1}, {7, 7, 6}, {0, 0, 7}, {0, 7, 7},
                {7, 7, 7}};
            DecisionTables x = new DecisionTables();
            for (int k = 0; k < cases.length; k++) {
                for (int v = 0; v < 3; v++) {
                    due("value of " + v + " in " + cases[k], x.value(v, cases[k]), inputs[k][v]);
                }
            }
        });
        sentence("up to 5 tables, 0 to 4, in the order in which they were made", () -> {
            DecisionTables x = new DecisionTables();
            for (int t = 0; t < 5; t++) {
                due("table " + t, x.table(COLUMNS_0, 0, 7 - t), t);
            }
            for (int t = 0; t < 5; t++) {
                due("result of table " + t, x.value(3 + t, 0), 7 - t);
            }
        });
        sentence("variable 3 + t is 0 as long as there is no table t", () -> {
            for (int t = 0; t < 5; t++) {
                DecisionTables x = withTables(t);
                due("value of " + (3 + t) + " before", x.value(3 + t, 511), 0);
                x.table(COLUMNS_0, 0, 6);
                due("value of " + (3 + t), x.value(3 + t, 511), 6);
                x.drop();
                due("value of " + (3 + t) + " after", x.value(3 + t, 511), 0);
            }
        });
    }

    private static void tablesAndRules() {
        sentence("a table has 1 to 3 columns", () -> {
            due("no column", new DecisionTables().table(999, 0, 0), BAD);
            due("one column", new DecisionTables().table(COLUMNS_0, 0, 0), 0);
            due("two columns", new DecisionTables().table(COLUMNS_0_1, 0, 0), 0);
            due("three columns", new DecisionTables().table(COLUMNS_0_1_2, 0, 0), 0);
        });
        sentence("up to 8 rules, numbered from 0", () -> {
            DecisionTables x = copyOf0();
            for (int a = 0; a < 8; a++) {
                due("fires in " + a, x.fires(0, a), one(a));
            }
        });
        sentence("a set of values (0 to 255, bit x for value x)", () -> {
            for (int column = 0; column < 3; column++) {
                for (int value = 0; value < 8; value++) {
                    DecisionTables x = new DecisionTables();
                    x.table(COLUMNS_0_1_2, 0, 0);
                    x.rule(0, ALL - (ANY << (8 * column)) + (one(value) << (8 * column)), 1);
                    for (int other = 0; other < 8; other++) {
                        int fires = x.fires(0, other << (3 * column));
                        due("set " + one(value) + " of column " + column + " for " + other, fires,
                            other == value ? 1 : 0);
                    }
                }
            }
        });
        sentence("the empty set has no value, the full one all", () -> {
            for (int column = 0; column < 3; column++) {
                DecisionTables x = new DecisionTables();
                x.table(COLUMNS_0_1_2, 0, 0);
                x.rule(0, ALL - (ANY << (8 * column)), 1);
                due("count with column " + column + " empty", x.count(3, 1), 0);
                x.rule(0, ALL, 2);
                due("count with all full", x.count(3, 2), 512);
            }
        });
        sentence("a result from 0 to 7", () -> {
            for (int result = 0; result < 8; result++) {
                DecisionTables x = over0(0, 7 - result, new int[] {ANY}, result);
                due("result " + result, x.value(3, 0), result);
            }
        });
        sentence("a rule fires iff each column's value is in its set", () -> {
            DecisionTables x = onlyIn(7, 0, 7, 1, 0);
            due("all three", x.fires(0, at(7, 0, 7)), 1);
            due("all but the first", x.fires(0, at(6, 0, 7)), 0);
            due("all but the second", x.fires(0, at(7, 1, 7)), 0);
            due("all but the third", x.fires(0, at(7, 0, 0)), 0);
        });
    }

    private static void policies() {
        int[] firing = {one(0) | one(1) | one(2), one(0) | one(1), one(0)};
        sentence("policy 0: that of the first one", () -> {
            DecisionTables x = over0(0, 6, firing, 4, 1, 5);
            due("three fire", x.value(3, 0), 4);
            due("two fire", x.value(3, 1), 4);
            due("one fires", x.value(3, 2), 4);
        });
        sentence("policy 1: that of the last one", () -> {
            DecisionTables x = over0(1, 6, firing, 4, 7, 3);
            due("three fire", x.value(3, 0), 3);
            due("two fire", x.value(3, 1), 7);
            due("one fires", x.value(3, 2), 4);
        });
        sentence("policy 2: the smallest one", () -> {
            DecisionTables x = over0(2, 0, firing, 4, 1, 5);
            due("three fire", x.value(3, 0), 1);
            due("two fire", x.value(3, 1), 1);
            due("one fires", x.value(3, 2), 4);
        });
        sentence("policy 3: the greatest one", () -> {
            DecisionTables x = over0(3, 7, firing, 4, 5, 1);
            due("three fire", x.value(3, 0), 5);
            due("two fire", x.value(3, 1), 5);
            due("one fires", x.value(3, 2), 4);
        });
        sentence("policy 4: the sum of theirs", () -> {
            DecisionTables x = over0(4, 5, firing, 1, 2, 3);
            due("three fire", x.value(3, 0), 6);
            due("two fire", x.value(3, 1), 3);
            due("one fires", x.value(3, 2), 1);
        });
        sentence("policy 4: at most 7", () -> {
            due("6 + 1", over0(4, 0, new int[] {1, 1}, 6, 1).value(3, 0), 7);
            due("7 + 1", over0(4, 0, new int[] {1, 1}, 7, 1).value(3, 0), 7);
            due("7 + 1 + 0", over0(4, 0, new int[] {1, 1, 1}, 7, 1, 0).value(3, 0), 7);
            due("8 times 7", over0(4, 0, new int[] {1, 1, 1, 1, 1, 1, 1, 1}, 7, 7, 7, 7, 7, 7, 7, 7).value(3, 0), 7);
            due("0 + 0", over0(4, 3, new int[] {1, 1}, 0, 0).value(3, 0), 0);
        });
        sentence("policy 5: that of the only one", () -> {
            due("rule 0", over0(5, 6, new int[] {one(0), one(1)}, 4, 2).value(3, 0), 4);
            due("rule 1", over0(5, 6, new int[] {one(0), one(1)}, 4, 2).value(3, 1), 2);
            due("with result 0", over0(5, 6, new int[] {one(0)}, 0).value(3, 0), 0);
        });
        sentence("policy 5: if several fire, the default", () -> {
            due("two", over0(5, 6, firing, 1, 2, 3).value(3, 1), 6);
            due("three", over0(5, 6, firing, 1, 2, 3).value(3, 0), 6);
            due("several with one result", over0(5, 6, firing, 2, 2, 2).value(3, 0), 6);
        });
        sentence("if none fires it is the default", () -> {
            for (int policy = 0; policy < 6; policy++) {
                for (int otherwise = 0; otherwise < 8; otherwise++) {
                    DecisionTables x = over0(policy, otherwise, new int[] {0, one(1)}, 3, 4);
                    due("policy " + policy + ", no rule fires", x.value(3, 0), otherwise);
                    DecisionTables y = over0(policy, otherwise, new int[0]);
                    due("policy " + policy + ", no rules", y.value(3, 0), otherwise);
                }
            }
        });
    }

    private static void newObject() {
        sentence("1: a new object has no tables", () -> {
            DecisionTables x = new DecisionTables();
            for (int t = 0; t < 5; t++) {
                due("rule", x.rule(t, 0, 0), BAD);
                due("unrule", x.unrule(t), BAD);
                due("fires", x.fires(t, 0), BAD);
                due("gaps", x.gaps(t), BAD);
                due("overlaps", x.overlaps(t), BAD);
                due("needless", x.needless(t), BAD);
                due("unreached", x.unreached(t), BAD);
            }
            due("drop", x.drop(), BAD);
            due("table", x.table(COLUMNS_0, 0, 0), 0);
        });
        sentence("1: a new object has none of another one's tables", () -> {
            DecisionTables full = withTables(5);
            DecisionTables x = new DecisionTables();
            due("drop", x.drop(), BAD);
            due("table", x.table(COLUMNS_0, 0, 7), 0);
            due("value of the other one", full.value(3, 0), 0);
        });
    }

    private static void table() {
        sentence("2: makes a table without rules", () -> {
            DecisionTables x = withTables(1);
            due("unrule", x.unrule(0), BAD);
            due("fires", x.fires(0, 0), 0);
            due("rule", x.rule(0, 0, 0), 1);
            DecisionTables y = copyOf0();
            y.drop();
            y.table(COLUMNS_0, 0, 3);
            due("unrule in a place used before", y.unrule(0), BAD);
            due("fires in a place used before", y.fires(0, 5), 0);
            due("value in a place used before", y.value(3, 5), 3);
        });
        sentence("2: 9 for a column that is not there", () -> {
            DecisionTables x = new DecisionTables();
            x.table(COLUMNS_0, 0, 0);
            x.table(COLUMNS_0_1, 0, 0);
            x.table(COLUMNS_0_1_2, 0, 0);
            due("combinations of one column", x.gaps(0), 8);
            due("combinations of two columns", x.gaps(1), 64);
            due("combinations of three columns", x.gaps(2), 512);
        });
        sentence("2: the first column's variable + 10 * the second one's + 100 * the third one's", () -> {
            DecisionTables x = new DecisionTables();
            x.table(102, 0, 0);
            x.rule(0, sets(one(1), one(2), one(3)), 1);
            due("first(3, 1)", x.first(3, 1), at(2, 3, 1));
        });
        sentence("2: 5 are there: FULL", () -> {
            DecisionTables x = withTables(4);
            due("the fifth", x.table(COLUMNS_0, 0, 0), 4);
            due("the sixth", x.table(COLUMNS_0, 0, 0), FULL);
            due("the sixth again", x.table(COLUMNS_0, 0, 0), FULL);
            due("drop", x.drop(), 4);
            due("the fifth again", x.table(COLUMNS_0, 0, 0), 4);
        });
        sentence("2: tested in this order: FULL before all that is BAD", () -> {
            DecisionTables x = withTables(5);
            due("a variable too great", x.table(998, 0, 0), FULL);
            due("two the same", x.table(900, 0, 0), FULL);
            due("no first column", x.table(999, 0, 0), FULL);
            due("a third without a second", x.table(190, 0, 0), FULL);
            due("policy -1", x.table(COLUMNS_0, -1, 0), FULL);
            due("policy 6", x.table(COLUMNS_0, 6, 0), FULL);
            due("default -1", x.table(COLUMNS_0, 0, -1), FULL);
            due("default 8", x.table(COLUMNS_0, 0, 8), FULL);
            due("columns -1", x.table(-1, 0, 0), FULL);
            due("columns 1000", x.table(1000, 0, 0), FULL);
        });
        tableColumns();
        tableArguments();
    }

    private static void tableColumns() {
        sentence("2: a column that is there is not below 3 + the new table's number: BAD", () -> {
            for (int t = 0; t < 5; t++) {
                int last = 2 + t;
                due("first " + last, withTables(t).table(990 + last, 0, 0), t);
                due("second " + last, withTables(t).table(900 + 10 * last, 0, 0), t);
                due("third " + last, withTables(t).table(10 + 100 * last, 0, 0), t);
                for (int v = 3 + t; v < 9; v++) {
                    due("first " + v, withTables(t).table(990 + v, 0, 0), BAD);
                    due("second " + v, withTables(t).table(900 + 10 * v, 0, 0), BAD);
                    due("third " + v, withTables(t).table(10 + 100 * v, 0, 0), BAD);
                }
            }
        });
        sentence("2: the new table's number after a drop is what counts", () -> {
            DecisionTables x = withTables(2);
            x.drop();
            due("a dropped table's result", x.table(994, 0, 0), BAD);
            due("the result of the one that is left", x.table(993, 0, 0), 1);
        });
        sentence("2: or two are the same: BAD", () -> {
            for (int v = 0; v < 7; v++) {
                int w = v == 0 ? 1 : 0;
                due("first and second", withTables(4).table(900 + 11 * v, 0, 0), BAD);
                due("first and second of three", withTables(4).table(100 * w + 11 * v, 0, 0), BAD);
                due("first and third", withTables(4).table(101 * v + 10 * w, 0, 0), BAD);
                due("second and third", withTables(4).table(110 * v + w, 0, 0), BAD);
                due("all three", withTables(4).table(111 * v, 0, 0), BAD);
            }
        });
        sentence("2: two that are not there are not two that are the same", () -> {
            for (int v = 0; v < 3; v++) {
                due("columns " + (990 + v), new DecisionTables().table(990 + v, 0, 0), 0);
            }
        });
        sentence("2: or the first one is not there: BAD", () -> {
            due("nor any other", new DecisionTables().table(999, 0, 0), BAD);
            due("but the second", new DecisionTables().table(909, 0, 0), BAD);
            due("but the third", new DecisionTables().table(99, 0, 0), BAD);
            due("but both others", new DecisionTables().table(109, 0, 0), BAD);
            due("with 5 tables' room used up but one", withTables(4).table(999, 0, 0), BAD);
        });
        sentence("2: or the third one is there and the second one is not: BAD", () -> {
            due("first 0, third 1", new DecisionTables().table(190, 0, 0), BAD);
            due("first 1, third 0", new DecisionTables().table(91, 0, 0), BAD);
            due("first 0, third 6", withTables(4).table(690, 0, 0), BAD);
        });
    }

    private static void tableArguments() {
        sentence("2: or policy outside 0..5: BAD", () -> {
            for (int policy = 0; policy <= 5; policy++) {
                due("policy " + policy, new DecisionTables().table(COLUMNS_0, policy, 0), 0);
            }
            for (int policy : new int[] {LOWEST, -6, -1, 6, 7, 8, 12, 256, HIGHEST}) {
                due("policy " + policy, new DecisionTables().table(COLUMNS_0, policy, 0), BAD);
            }
        });
        sentence("2: or otherwise outside 0..7: BAD", () -> {
            for (int otherwise = 0; otherwise <= 7; otherwise++) {
                due("default " + otherwise, new DecisionTables().table(COLUMNS_0, 0, otherwise), 0);
            }
            outside0To7("default", otherwise -> new DecisionTables().table(COLUMNS_0, 0, otherwise));
        });
        sentence("2: or columns outside 0..999: BAD", () -> {
            // With a fourth digit cut off, or without their sign, most of these would do.
            for (int columns : new int[] {LOWEST, -1990, -990, -210, -10, -8, -1, 1000, 1210, 1990, 2012, 10990, 65746,
                65536 + 990, HIGHEST}) {
                due("columns " + columns, new DecisionTables().table(columns, 0, 0), BAD);
            }
            due("columns 12, the smallest", new DecisionTables().table(12, 0, 0), 0);
            due("columns 992, the greatest of a first table", new DecisionTables().table(992, 0, 0), 0);
            due("columns 996, the greatest of all", withTables(4).table(996, 0, 0), 4);
        });
        sentence("2: else answers its number", () -> {
            for (int t = 0; t < 5; t++) {
                due("table", withTables(t).table(COLUMNS_0, 5, 7), t);
            }
        });
        sentence("2: a refused call makes no table", () -> {
            changesNothing("columns 996", x -> x.table(996, 0, 7), BAD);
            changesNothing("columns 900", x -> x.table(900, 0, 7), BAD);
            changesNothing("columns 999", x -> x.table(999, 0, 7), BAD);
            changesNothing("columns 190", x -> x.table(190, 0, 7), BAD);
            changesNothing("columns 1000", x -> x.table(1000, 0, 7), BAD);
            changesNothing("policy 6", x -> x.table(COLUMNS_0, 6, 7), BAD);
            changesNothing("default 8", x -> x.table(COLUMNS_0, 0, 8), BAD);
            DecisionTables full = withTables(5);
            due("table", full.table(992, 0, 7), FULL);
            due("picture of five", picture(full).equals(picture(withTables(5))), true);
        });
    }

    private static void rule() {
        sentence("3: the first column's set + 256 * the second one's + 65536 * the third one's", () -> {
            DecisionTables x = new DecisionTables();
            x.table(COLUMNS_0_1_2, 0, 0);
            due("rule", x.rule(0, 128 + 256 * 1 + 65536 * 16, 1), 1);
            due("count(3, 1)", x.count(3, 1), 1);
            due("first(3, 1)", x.first(3, 1), at(7, 0, 4));
        });
        sentence("3: sets of columns that are not there play no part", () -> {
            for (int spare : new int[] {0, 1, 128, ANY}) {
                DecisionTables x = new DecisionTables();
                x.table(COLUMNS_0, 0, 0);
                x.rule(0, sets(one(3), spare, ANY - spare), 1);
                x.rule(0, sets(one(3), ANY - spare, spare), 2);
                x.table(COLUMNS_0_1, 0, 0);
                x.rule(1, sets(one(3), one(4), spare), 1);
                x.rule(1, sets(one(3), one(4), ANY - spare), 2);
                for (int t = 0; t < 2; t++) {
                    String of = " of table " + t + " with " + spare;
                    due("fires" + of, x.fires(t, at(3, 4, 5)), 3);
                    due("fires elsewhere" + of, x.fires(t, at(4, 4, 5)), 0);
                    due("gaps" + of, x.gaps(t), t == 0 ? 7 : 63);
                    due("overlaps" + of, x.overlaps(t), 1);
                    due("needless" + of, x.needless(t), 2);
                    due("unreached" + of, x.unreached(t), 0);
                }
            }
        });
        sentence("3: there is no table t: BAD", () -> {
            noTable("rule", (made, t) -> withTables(made).rule(t, ANY, 1));
            droppedTable("rule", x -> x.rule(1, ANY, 1));
        });
        sentence("3: it has 8 rules: FULL", () -> {
            DecisionTables x = withTables(2);
            for (int r = 1; r <= 8; r++) {
                due("rule " + r, x.rule(0, ANY, 1), r);
            }
            due("the ninth", x.rule(0, ANY, 1), FULL);
            due("the ninth again", x.rule(0, ANY, 1), FULL);
            due("the other table's first", x.rule(1, ANY, 1), 1);
            due("unrule", x.unrule(0), 7);
            due("the eighth again", x.rule(0, ANY, 1), 8);
            due("and full again", x.rule(0, ANY, 1), FULL);
        });
        sentence("3: each of 5 tables has room for 8 rules of its own", () -> {
            DecisionTables x = withTables(5);
            for (int r = 0; r < 8; r++) {
                for (int t = 0; t < 5; t++) {
                    due("rule of table " + t, x.rule(t, one(r), (r + t) % 8), r + 1);
                }
            }
            for (int t = 0; t < 5; t++) {
                for (int a = 0; a < 8; a++) {
                    due("value of table " + t, x.value(3 + t, a), (a + t) % 8);
                }
            }
        });
        ruleArguments();
    }

    private static void ruleArguments() {
        sentence("3: sets outside 0..16777215: BAD", () -> {
            for (int sets : new int[] {LOWEST, -16777216, -256, -1, 16777216, 16777217, 33554431, HIGHEST}) {
                due("sets " + sets, withTables(1).rule(0, sets, 0), BAD);
            }
            due("sets 0", withTables(1).rule(0, 0, 0), 1);
            due("sets 16777215", withTables(1).rule(0, 16777215, 0), 1);
        });
        sentence("3: or result outside 0..7: BAD", () -> {
            outside0To7("result", result -> withTables(1).rule(0, ANY, result));
            due("result 0", withTables(1).rule(0, ANY, 0), 1);
            due("result 7", withTables(1).rule(0, ANY, 7), 1);
        });
        sentence("3: tested in this order: no table, then 8 rules, then sets and result", () -> {
            DecisionTables x = copyOf0();
            due("no table, though its neighbour is full", x.rule(1, ANY, 1), BAD);
            due("no table and bad sets", x.rule(1, -1, 8), BAD);
            due("8 rules and sets -1", x.rule(0, -1, 1), FULL);
            due("8 rules and sets 16777216", x.rule(0, 16777216, 1), FULL);
            due("8 rules and result -1", x.rule(0, ANY, -1), FULL);
            due("8 rules and result 8", x.rule(0, ANY, 8), FULL);
            x.unrule(0);
            due("7 rules and sets -1", x.rule(0, -1, 1), BAD);
            due("7 rules and result 8", x.rule(0, ANY, 8), BAD);
        });
        sentence("3: else answers the number of its rules", () -> {
            DecisionTables x = withTables(2);
            for (int r = 1; r <= 8; r++) {
                due("of table 0", x.rule(0, 0, 0), r);
                due("of table 1", x.rule(1, 0, 0), r);
            }
        });
        sentence("3: a refused call adds no rule", () -> {
            changesNothing("rule of table 3", x -> x.rule(3, ANY, 1), BAD);
            changesNothing("rule of table -1", x -> x.rule(-1, ANY, 1), BAD);
            changesNothing("a ninth rule", x -> x.rule(1, ANY, 1), FULL);
            changesNothing("sets -1", x -> x.rule(0, -1, 1), BAD);
            changesNothing("sets 16777216", x -> x.rule(0, 16777216, 1), BAD);
            changesNothing("result 8", x -> x.rule(0, ANY, 8), BAD);
            changesNothing("result -1", x -> x.rule(0, ANY, -1), BAD);
        });
    }

    private static void unruleAndDrop() {
        sentence("4: takes the last rule of a table away", () -> {
            DecisionTables x = over0(3, 0, new int[] {ANY, ANY, ANY}, 1, 3, 5);
            x.unrule(0);
            due("value", x.value(3, 0), 3);
            due("fires", x.fires(0, 0), 3);
            due("overlaps", x.overlaps(0), 1);
            due("needless", x.needless(0), 1);
            x.unrule(0);
            x.unrule(0);
            due("gaps without rules", x.gaps(0), 8);
            due("unreached without rules", x.unreached(0), 0);
        });
        sentence("4: there is no table: BAD", () -> {
            noTable("unrule", (made, t) -> {
                DecisionTables x = withTables(made);
                for (int of = 0; of < made; of++) {
                    x.rule(of, ANY, 1);
                }
                return x.unrule(t);
            });
            droppedTable("unrule", x -> x.unrule(1));
        });
        sentence("4: or it has none: BAD", () -> {
            DecisionTables x = withTables(2);
            x.rule(1, ANY, 1);
            due("of a new table", x.unrule(0), BAD);
            due("of the one with a rule", x.unrule(1), 0);
            due("after its last", x.unrule(1), BAD);
            due("and once more", x.unrule(1), BAD);
            due("a first rule then", x.rule(1, ANY, 1), 1);
        });
        sentence("4: else answers how many are left", () -> {
            DecisionTables x = copyOf0();
            for (int left = 7; left >= 0; left--) {
                due("unrule", x.unrule(0), left);
            }
        });
        sentence("4: a refused call takes no rule away", () -> {
            changesNothing("unrule of table 3", x -> x.unrule(3), BAD);
            changesNothing("unrule of table -1", x -> x.unrule(-1), BAD);
            DecisionTables x = withTables(1);
            due("unrule of a table without rules", x.unrule(0), BAD);
            due("picture of it", picture(x).equals(picture(withTables(1))), true);
        });
        sentence("5: takes the last table away", () -> {
            DecisionTables x = sample();
            due("value of the last before", x.value(5, at(7, 7, 0)), 1);
            x.drop();
            due("value of the last after", x.value(5, at(7, 7, 0)), 0);
            due("gaps of the last", x.gaps(2), BAD);
            due("value of the first", x.value(3, at(7, 7, 0)), 7);
            due("fires of the second", x.fires(1, at(0, 0, 7)), 255);
        });
        sentence("5: answers how many are left", () -> {
            DecisionTables x = withTables(5);
            for (int left = 4; left >= 0; left--) {
                due("drop", x.drop(), left);
            }
        });
        sentence("5: BAD if there was none", () -> {
            DecisionTables x = withTables(1);
            due("drop of the only one", x.drop(), 0);
            due("drop", x.drop(), BAD);
            due("drop again", x.drop(), BAD);
            due("the next table's number", x.table(COLUMNS_0, 0, 0), 0);
            due("drop of a new object", new DecisionTables().drop(), BAD);
        });
    }

    private static void valueAndFires() {
        sentence("6: BAD for v outside 0..7", () -> {
            outside0To7("value", v -> new DecisionTables().value(v, 0));
            outside0To7("value, with five tables", v -> withTables(5).value(v, 511));
            for (int v = 0; v < 8; v++) {
                due("value of " + v, withTables(5).value(v, 511), v < 3 ? 7 : 0);
            }
        });
        sentence("6: or at outside 0..511", () -> {
            for (int at : OUTSIDE_0_TO_511) {
                for (int v = 0; v < 8; v++) {
                    due("value of " + v + " in " + at, sample().value(v, at), BAD);
                }
            }
            due("value in 0", onlyIn(0, 0, 0, 1, 2).value(3, 0), 1);
            due("value in 511", onlyIn(7, 7, 7, 1, 2).value(3, 511), 1);
        });
        sentence("7: the rules of a table that fire in a case, as a set: none to all 8", () -> {
            DecisionTables x = over0(0, 0, new int[] {0, 2, 2, 2, 2, 2, 2, 2}, new int[8]);
            due("none", x.fires(0, 0), 0);
            due("all but the empty one", x.fires(0, 1), 254);
            due("no rules", withTables(1).fires(0, 0), 0);
            due("all", over0(0, 0, new int[] {1, 1, 1, 1, 1, 1, 1, 1}, new int[8]).fires(0, 504), 255);
        });
        sentence("7: BAD if there is no table t", () -> {
            noTable("fires", (made, t) -> withTables(made).fires(t, 0));
            droppedTable("fires", x -> x.fires(1, 0));
        });
        sentence("7: or at is outside 0..511", () -> {
            for (int at : OUTSIDE_0_TO_511) {
                due("fires in " + at, sample().fires(0, at), BAD);
            }
            due("fires in 0", onlyIn(0, 0, 0, 1, 2).fires(0, 0), 1);
            due("fires in 511", onlyIn(7, 7, 7, 1, 2).fires(0, 511), 1);
        });
    }

    private static void byItself() {
        sentence("by itself: 8, 64 or 512 combinations", () -> {
            int[] columns = {COLUMNS_0, COLUMNS_0_1, COLUMNS_0_1_2};
            int[] combinations = {8, 64, 512};
            for (int k = 0; k < 3; k++) {
                DecisionTables x = new DecisionTables();
                x.table(columns[k], 0, 0);
                due("without rules", x.gaps(0), combinations[k]);
                x.rule(0, sets(one(7), one(7), one(7)), 1);
                due("but for the last", x.gaps(0), combinations[k] - 1);
                x.rule(0, sets(one(0), one(0), one(0)), 1);
                due("but for the first and the last", x.gaps(0), combinations[k] - 2);
                x.rule(0, ALL, 1);
                due("all covered", x.gaps(0), 0);
            }
        });
        sentence("8: by itself, whether the combinations come in any case or not", () -> {
            due("gaps, 1 covered", overConstant1(one(1)).gaps(1), 7);
            due("gaps, all but 1 covered", overConstant1(ANY - one(1)).gaps(1), 1);
        });
        sentence("8: BAD if there is no table t", () -> {
            noTable("gaps", (made, t) -> withTables(made).gaps(t));
            droppedTable("gaps", x -> x.gaps(1));
        });
        sentence("9: by itself, whether the combinations come in any case or not", () -> {
            due("overlaps in 7", overConstant1(one(7), one(7)).overlaps(1), 1);
            due("overlaps in 0", overConstant1(one(0) | one(1), one(0)).overlaps(1), 1);
        });
        sentence("9: couples of rules: none of none or one, 28 of 8", () -> {
            DecisionTables x = withTables(1);
            for (int rules = 0; rules <= 8; rules++) {
                due("overlaps of " + rules, x.overlaps(0), rules * (rules - 1) / 2);
                x.rule(0, ANY, 1);
            }
        });
        sentence("9: that fire together in some combination: one is enough, and each couple counts once", () -> {
            for (int a = 0; a < 8; a++) {
                DecisionTables x = new DecisionTables();
                x.table(COLUMNS_0_1_2, 0, 0);
                x.rule(0, sets(ANY, ANY, one(a)), 1);
                x.rule(0, sets(one(a), one(7 - a), ANY), 1);
                due("overlaps", x.overlaps(0), 1);
                x.rule(0, sets(ANY, ANY, ANY - one(a)), 1);
                due("overlaps, 0 and 2 being apart", x.overlaps(0), 2);
                x.rule(0, sets(ANY, 0, ANY), 1);
                due("overlaps with one that never fires", x.overlaps(0), 2);
            }
        });
        sentence("9: BAD if there is no table t", () -> {
            noTable("overlaps", (made, t) -> withTables(made).overlaps(t));
            droppedTable("overlaps", x -> x.overlaps(1));
        });
        needless();
    }

    private static void needless() {
        sentence("10: by itself, whether the combinations come in any case or not", () -> {
            due("needless for 7 alone", overConstant1(one(7)).needless(1), 0);
            due("needless for 7 twice", overConstant1(one(7), one(7)).needless(1), 3);
        });
        sentence("10: each of which could be taken out alone", () -> {
            due("two alike", over0(0, 0, new int[] {1, 1}, 5, 5).needless(0), 3);
            due("two alike, to the last one", over0(1, 0, new int[] {1, 1}, 5, 5).needless(0), 3);
            due("7 + 7 + 7", over0(4, 0, new int[] {1, 1, 1}, 7, 7, 7).needless(0), 7);
            due("two of the only one", over0(5, 0, new int[] {1, 1}, 5, 5).needless(0), 0);
            due("two of the only one, with the default's result", over0(5, 5, new int[] {1, 1}, 5, 5).needless(0), 3);
            due("three of the only one", over0(5, 0, new int[] {1, 1, 1}, 5, 6, 7).needless(0), 7);
        });
        sentence("10: without another result in any combination: the first and the last count", () -> {
            for (int edge : new int[] {0, 7}) {
                DecisionTables x = new DecisionTables();
                x.table(COLUMNS_0_1_2, 0, 3);
                x.rule(0, sets(one(edge), one(edge), one(edge)), 4);
                due("another result in one", x.needless(0), 0);
                x.unrule(0);
                x.rule(0, sets(one(edge), one(edge), one(edge)), 3);
                due("the default's result", x.needless(0), 1);
            }
        });
        sentence("10: as a set: no rules, a rule that never fires, and all 8", () -> {
            for (int policy = 0; policy < 6; policy++) {
                due("no rules", over0(policy, 0, new int[0]).needless(0), 0);
                due("never fires", over0(policy, 0, new int[] {ANY, 0}, 1, 7).needless(0), 2);
            }
            due("all 8", over0(0, 0, new int[] {1, 1, 1, 1, 1, 1, 1, 1}, new int[8]).needless(0), 255);
            due("rule 0 of 8, which has the default's result", copyOf0().needless(0), 1);
        });
        sentence("10: BAD if there is no table t", () -> {
            noTable("needless", (made, t) -> withTables(made).needless(t));
            droppedTable("needless", x -> x.needless(1));
        });
    }

    private static void unreached() {
        sentence("11: that fire in no case: one case is enough, the first and the last too", () -> {
            due("first case", onlyIn(0, 0, 0, 1, 0).unreached(0), 0);
            due("last case", onlyIn(7, 7, 7, 1, 0).unreached(0), 0);
            due("an empty set", over0(0, 0, new int[] {0}, 1).unreached(0), 1);
        });
        sentence("11: in no case, not by itself", () -> {
            due("all but 1", overConstant1(ANY - one(1), one(1), ANY).unreached(1), 1);
            DecisionTables x = copyOf0();
            x.table(930, 0, 0);
            x.rule(1, sets(one(7), one(0), 0), 1);
            due("values that never come together", x.unreached(1), 1);
        });
        sentence("11: rules that fire but are not heard are reached", () -> {
            due("first of two", over0(0, 0, new int[] {ANY, ANY}, 1, 2).unreached(0), 0);
            due("several of the only one", over0(5, 0, new int[] {ANY, ANY}, 1, 2).unreached(0), 0);
        });
        sentence("11: as a set: no rules, none of 8, all 8", () -> {
            due("no rules", withTables(1).unreached(0), 0);
            due("none of 8", copyOf0().unreached(0), 0);
            due("all 8", over0(0, 0, new int[8], new int[8]).unreached(0), 255);
        });
        sentence("11: BAD if there is no table t", () -> {
            noTable("unreached", (made, t) -> withTables(made).unreached(t));
            droppedTable("unreached", x -> x.unreached(1));
        });
    }

    private static void countFirstPossible() {
        sentence("12: the number of cases in which a variable has a value: 0, 1 and 512", () -> {
            due("in none", onlyIn(0, 0, 0, 1, 2).count(3, 7), 0);
            due("in the first case", onlyIn(0, 0, 0, 1, 2).count(3, 1), 1);
            due("in the last case", onlyIn(7, 7, 7, 1, 2).count(3, 1), 1);
            due("in all but one", onlyIn(7, 7, 7, 1, 2).count(3, 2), 511);
            due("in all, without a table", new DecisionTables().count(7, 0), 512);
        });
        sentence("12: BAD for v outside 0..7", () -> {
            outside0To7("count", v -> new DecisionTables().count(v, 0));
            outside0To7("count, with five tables", v -> withTables(5).count(v, 0));
        });
        sentence("12: BAD for x outside 0..7", () -> {
            for (int v = 0; v < 8; v++) {
                int of = v;
                outside0To7("count of " + v, x -> sample().count(of, x));
            }
        });
        sentence("13: the smallest case in which a variable has a value", () -> {
            due("the first case", onlyIn(0, 0, 0, 1, 2).first(3, 1), 0);
            due("the second case", onlyIn(0, 0, 0, 1, 2).first(3, 2), 1);
            due("the last case", onlyIn(7, 7, 7, 1, 2).first(3, 1), 511);
            due("the smallest of two", over0(0, 0, new int[] {one(5) | one(3)}, 1).first(3, 1), 3);
        });
        sentence("13: BAD for v outside 0..7", () -> {
            outside0To7("first", v -> new DecisionTables().first(v, 0));
            outside0To7("first, with five tables", v -> withTables(5).first(v, 1));
        });
        sentence("13: BAD for x outside 0..7, not NONE", () -> {
            for (int v = 0; v < 8; v++) {
                int of = v;
                outside0To7("first of " + v, x -> sample().first(of, x));
            }
        });
        sentence("13: NONE if there is none", () -> {
            for (int x = 0; x < 8; x++) {
                due("without a table", new DecisionTables().first(7, x), x == 0 ? 0 : NONE);
                due("all results 5", over0(0, 5, new int[0]).first(3, x), x == 5 ? 0 : NONE);
            }
        });
        sentence("14: the values that a variable has in some case: one case is enough", () -> {
            due("the first case", onlyIn(0, 0, 0, 7, 0).possible(3), one(7) | one(0));
            due("the last case", onlyIn(7, 7, 7, 0, 7).possible(3), one(7) | one(0));
            due("a result that never comes", over0(0, 2, new int[] {0}, 1).possible(3), one(2));
        });
        sentence("14: as a set: one value to all 8", () -> {
            due("without a table", new DecisionTables().possible(3), 1);
            due("the default alone", over0(0, 7, new int[0]).possible(3), one(7));
            due("all", copyOf0().possible(3), 255);
            due("of an input", new DecisionTables().possible(2), 255);
        });
        sentence("14: BAD for v outside 0..7", () -> {
            outside0To7("possible", v -> new DecisionTables().possible(v));
            outside0To7("possible, with five tables", v -> withTables(5).possible(v));
        });
    }

    private static void dependsRisingSame() {
        sentence("15: two cases that differ in this input only: one couple is enough", () -> {
            for (int a = 0; a < 8; a++) {
                due("another value in one case, " + a, onlyIn(a, a, a, 1, 0).depends(3), 7);
                due("another value for one value of input 0", over0(0, 0, new int[] {one(a)}, 1).depends(3), 1);
            }
        });
        sentence("15: as a set: none of the inputs, each alone", () -> {
            due("without a table", new DecisionTables().depends(3), 0);
            due("one result all over", over0(0, 4, new int[] {one(0)}, 4).depends(3), 0);
            for (int i = 0; i < 3; i++) {
                due("an input by itself", new DecisionTables().depends(i), one(i));
                DecisionTables x = new DecisionTables();
                x.table(990 + i, 0, 0);
                x.rule(0, one(7), 1);
                due("a table over input " + i, x.depends(3), one(i));
            }
        });
        sentence("15: the inputs through other tables, not the columns", () -> {
            DecisionTables x = copyOf0();
            x.table(903, 0, 0);
            x.rule(1, sets(one(7), one(6), 0), 1);
            due("depends where values never come together", x.depends(4), 0);
        });
        sentence("15: BAD for v outside 0..7", () -> {
            outside0To7("depends", v -> new DecisionTables().depends(v));
            outside0To7("depends, with five tables", v -> withTables(5).depends(v));
        });
        sentence("16: never smaller: staying the same is rising", () -> {
            for (int i = 0; i < 3; i++) {
                due("without a table", new DecisionTables().rising(7, i), true);
                due("one result all over", over0(0, 7, new int[0]).rising(3, i), true);
                due("one step, at the end", onlyIn(7, 7, 7, 1, 0).rising(3, i), true);
            }
        });
        sentence("16: never smaller: one fall is enough, at any value and in any case", () -> {
            for (int i = 0; i < 3; i++) {
                for (int a = 0; a < 8; a++) {
                    DecisionTables down = onlyIn(a, a, a, 6, 7);
                    due("lower in one case, " + a, down.rising(3, i), a == 0);
                    DecisionTables up = onlyIn(a, a, a, 7, 6);
                    due("higher in one case, " + a, up.rising(3, i), a == 7);
                }
            }
        });
        sentence("16: false for v outside 0..7", () -> {
            for (int v : OUTSIDE_0_TO_7) {
                for (int i = 0; i < 3; i++) {
                    due("rising of " + v + " by " + i, new DecisionTables().rising(v, i), false);
                    due("rising of " + v + " by " + i + ", five tables", withTables(5).rising(v, i), false);
                }
            }
        });
        sentence("16: or i outside 0..2", () -> {
            for (int v = 0; v < 8; v++) {
                for (int i : new int[] {LOWEST, -3, -1, 3, 4, 7, 8, 11, 32, 33, 256, HIGHEST}) {
                    due("rising of " + v + " by " + i, new DecisionTables().rising(v, i), false);
                }
                due("rising of " + v + " by 0", new DecisionTables().rising(v, 0), true);
                due("rising of " + v + " by 2", new DecisionTables().rising(v, 2), true);
            }
        });
        same();
    }

    private static void same() {
        sentence("17: in all cases: the first and the last count", () -> {
            for (int a = 0; a < 8; a++) {
                due("but for one case", onlyIn(a, a, a, 1, 0).same(3, 7), false);
                due("but for one case, turned", onlyIn(a, a, a, 1, 0).same(7, 3), false);
            }
            due("all", copyOf0().same(0, 3), true);
            due("two without a table", new DecisionTables().same(3, 7), true);
        });
        sentence("17: a variable and itself", () -> {
            for (int v = 0; v < 8; v++) {
                due("same of " + v, sample().same(v, v), true);
            }
        });
        sentence("17: false for one outside 0..7", () -> {
            for (int bad : OUTSIDE_0_TO_7) {
                for (int v = 0; v < 8; v++) {
                    due("same of " + bad + " and " + v, new DecisionTables().same(bad, v), false);
                    due("same of " + v + " and " + bad, new DecisionTables().same(v, bad), false);
                }
                due("same of " + bad + " twice", new DecisionTables().same(bad, bad), false);
            }
        });
    }

    /** What is due of the sample when nothing but questions has come to it. */
    private static void isStillTheSample(String call, DecisionTables x) {
        due("the fourth rule of table 0 after " + call, x.rule(0, 0, 0), 4);
        due("a ninth rule of table 1 after " + call, x.rule(1, 0, 0), FULL);
        due("the second rule of table 2 after " + call, x.rule(2, 0, 0), 2);
        due("a rule of table 3 after " + call, x.rule(3, 0, 0), BAD);
        due("fires of table 0 after " + call, x.fires(0, at(2, 0, 0)), 3);
        due("fires of table 1 after " + call, x.fires(1, at(0, 0, 7)), 255);
        due("value of table 0 after " + call, x.value(3, at(2, 0, 0)), 5);
        due("value of table 1 after " + call, x.value(4, at(2, 0, 3)), 3);
        due("gaps of table 2 after " + call, x.gaps(2), 512 - 16);
        due("the next table after " + call, x.table(COLUMNS_0, 0, 0), 3);
    }

    private static void asked(String name, IntBinaryOperator question, DecisionTables x, int k, int j) {
        int once = question.applyAsInt(k, j);
        due(name + " of " + k + " and " + j + " again", question.applyAsInt(k, j), once);
        isStillTheSample(name + " of " + k + " and " + j, x);
    }

    private static void questions() {
        sentence("a question, answered or refused, changes nothing", () -> {
            for (int k : new int[] {-1, 0, 1, 2, 3, 7, 8}) {
                for (int j : new int[] {-1, 0, 2, 3, 512}) {
                    DecisionTables[] x = new DecisionTables[12];
                    java.util.Arrays.setAll(x, n -> sample());
                    asked("value", x[0]::value, x[0], k, j);
                    asked("fires", x[1]::fires, x[1], k, j);
                    asked("gaps", (t, none) -> x[2].gaps(t), x[2], k, j);
                    asked("overlaps", (t, none) -> x[3].overlaps(t), x[3], k, j);
                    asked("needless", (t, none) -> x[4].needless(t), x[4], k, j);
                    asked("unreached", (t, none) -> x[5].unreached(t), x[5], k, j);
                    asked("count", x[6]::count, x[6], k, j);
                    asked("first", x[7]::first, x[7], k, j);
                    asked("possible", (v, none) -> x[8].possible(v), x[8], k, j);
                    asked("depends", (v, none) -> x[9].depends(v), x[9], k, j);
                    asked("rising", (v, i) -> x[10].rising(v, i) ? 1 : 0, x[10], k, j);
                    asked("same", (v, w) -> x[11].same(v, w) ? 1 : 0, x[11], k, j);
                }
            }
        });
        sentence("an answer follows each change", () -> {
            DecisionTables x = copyOf0();
            due("count", x.count(3, 7), 64);
            due("value", x.value(3, 7), 7);
            x.unrule(0);
            due("value after unrule", x.value(3, 7), 0);
            due("count after unrule", x.count(3, 7), 0);
            x.table(993, 0, 5);
            due("count of a new table", x.count(4, 5), 512);
            x.rule(1, one(6), 1);
            due("count after rule", x.count(4, 5), 448);
            x.unrule(0);
            due("count after unrule in the table before", x.count(4, 5), 512);
            x.drop();
            due("count after drop", x.count(4, 5), 0);
        });
    }

    public static void main(String[] args) {
        beforeThePromises();
        tablesAndRules();
        policies();
        newObject();
        table();
        rule();
        unruleAndDrop();
        valueAndFires();
        byItself();
        unreached();
        countFirstPossible();
        dependsRisingSame();
        questions();
        System.out.println(failed == 0 ? "all " + tests + " boundary sentences hold"
            : failed + " of " + tests + " boundary sentences do not hold");
        if (failed != 0) {
            System.exit(1);
        }
    }
}
