import java.util.ArrayList;
import java.util.List;
import java.util.TreeSet;

/**
 * Long runs of calls, each answer compared with that of a model which follows the document's words
 * one by one and shares no way of reckoning with the program.
 */
public final class ModelTest {
    private static final int RUNS = 500;
    private static final int CALLS = 512;
    private static final int[] ODD = {Integer.MIN_VALUE, -512, -9, -1, 3, 5, 6, 8, 9, 64, 512, 999, 1000,
        16777215, 16777216, Integer.MAX_VALUE};

    private static long seed = 0;
    private static int wrong = 0;

    private record Rule(List<TreeSet<Integer>> sets, int result) {
        boolean firesFor(List<Integer> combination) {
            for (int c = 0; c < combination.size(); c++) {
                if (!sets.get(c).contains(combination.get(c))) {
                    return false;
                }
            }
            return true;
        }
    }

    private record Table(List<Integer> columns, int policy, int otherwise, List<Rule> rules) {
        List<Rule> firing(List<Integer> combination) {
            return rules.stream().filter(rule -> rule.firesFor(combination)).toList();
        }

        int result(List<Integer> combination) {
            List<Integer> results = firing(combination).stream().map(Rule::result).toList();
            if (results.isEmpty()) {
                return otherwise;
            }
            return switch (policy) {
                case 0 -> results.get(0);
                case 1 -> results.get(results.size() - 1);
                case 2 -> results.stream().mapToInt(x -> x).min().getAsInt();
                case 3 -> results.stream().mapToInt(x -> x).max().getAsInt();
                case 4 -> Math.min(7, results.stream().mapToInt(x -> x).sum());
                default -> results.size() == 1 ? results.get(0) : otherwise;
            };
        }

        Table without(Rule rule) {
            List<Rule> others = new ArrayList<>();
            for (Rule other : rules) {
                if (other != rule) {
                    others.add(other);
                }
            }
            return new Table(columns, policy, otherwise, others);
        }

        List<List<Integer>> combinations() {
            List<List<Integer>> all = new ArrayList<>();
            all.add(List.of());
            for (int c = 0; c < columns.size(); c++) {
                List<List<Integer>> longer = new ArrayList<>();
                for (List<Integer> start : all) {
                    for (int x = 0; x < 8; x++) {
                        List<Integer> next = new ArrayList<>(start);
                        next.add(x);
                        longer.add(next);
                    }
                }
                all = longer;
            }
            return all;
        }
    }

    private static final class Model {
        private final List<Table> tables = new ArrayList<>();
        // The variables' values in all cases, gone when a table or rule comes or goes.
        private int[][] known = null;

        int table(int columns, int policy, int otherwise) {
            if (tables.size() == 5) {
                return -2;
            }
            if (columns < 0 || columns > 999 || policy < 0 || policy > 5 || otherwise < 0 || otherwise > 7) {
                return -1;
            }
            String digits = String.format("%03d", columns);
            String there = new StringBuilder(digits).reverse().toString().replaceFirst("9+$", "");
            if (there.isEmpty() || there.contains("9")) {
                return -1;
            }
            List<Integer> list = new ArrayList<>();
            for (char digit : there.toCharArray()) {
                int variable = digit - '0';
                if (variable >= 3 + tables.size() || list.contains(variable)) {
                    return -1;
                }
                list.add(variable);
            }
            known = null;
            tables.add(new Table(list, policy, otherwise, new ArrayList<>()));
            return tables.size() - 1;
        }

        boolean has(int t) {
            return t >= 0 && t < tables.size();
        }

        int rule(int t, int sets, int result) {
            if (!has(t)) {
                return -1;
            }
            List<Rule> rules = tables.get(t).rules();
            if (rules.size() == 8) {
                return -2;
            }
            if (sets < 0 || sets >= 256 * 256 * 256 || result < 0 || result > 7) {
                return -1;
            }
            List<TreeSet<Integer>> lists = new ArrayList<>();
            int rest = sets;
            for (int c = 0; c < 3; c++) {
                TreeSet<Integer> set = new TreeSet<>();
                for (int x = 0; x < 8; x++) {
                    if (rest % 2 == 1) {
                        set.add(x);
                    }
                    rest /= 2;
                }
                lists.add(set);
            }
            known = null;
            rules.add(new Rule(lists, result));
            return rules.size();
        }

        int unrule(int t) {
            if (!has(t) || tables.get(t).rules().isEmpty()) {
                return -1;
            }
            known = null;
            List<Rule> rules = tables.get(t).rules();
            rules.remove(rules.size() - 1);
            return rules.size();
        }

        int drop() {
            if (tables.isEmpty()) {
                return -1;
            }
            known = null;
            tables.remove(tables.size() - 1);
            return tables.size();
        }

        int[] variables(int at) {
            if (known == null) {
                known = new int[512][];
                for (int a = 0; a < 512; a++) {
                    known[a] = reckon(a);
                }
            }
            return known[at];
        }

        int[] reckon(int at) {
            int[] values = new int[8];
            values[0] = at % 8;
            values[1] = at / 8 % 8;
            values[2] = at / 64;
            for (int t = 0; t < tables.size(); t++) {
                values[3 + t] = tables.get(t).result(chosen(tables.get(t), values));
            }
            return values;
        }

        List<Integer> chosen(Table table, int[] values) {
            return table.columns().stream().map(v -> values[v]).toList();
        }

        int value(int v, int at) {
            return outside(v, 8) || outside(at, 512) ? -1 : variables(at)[v];
        }

        int setOf(Table table, List<Rule> some) {
            int set = 0;
            int bit = 1;
            for (Rule rule : table.rules()) {
                for (Rule other : some) {
                    if (rule == other) {
                        set += bit;
                    }
                }
                bit *= 2;
            }
            return set;
        }

        int fires(int t, int at) {
            if (!has(t) || outside(at, 512)) {
                return -1;
            }
            Table table = tables.get(t);
            return setOf(table, table.firing(chosen(table, variables(at))));
        }

        int gaps(int t) {
            if (!has(t)) {
                return -1;
            }
            Table table = tables.get(t);
            return (int) table.combinations().stream().filter(k -> table.firing(k).isEmpty()).count();
        }

        int overlaps(int t) {
            if (!has(t)) {
                return -1;
            }
            TreeSet<Integer> couples = new TreeSet<>();
            Table table = tables.get(t);
            for (List<Integer> k : table.combinations()) {
                List<Rule> rules = table.rules();
                for (int r = 0; r < rules.size(); r++) {
                    for (int s = 0; s < r; s++) {
                        if (rules.get(r).firesFor(k) && rules.get(s).firesFor(k)) {
                            couples.add(10 * r + s);
                        }
                    }
                }
            }
            return couples.size();
        }

        int needless(int t) {
            if (!has(t)) {
                return -1;
            }
            Table table = tables.get(t);
            List<Rule> found = new ArrayList<>();
            List<List<Integer>> combinations = table.combinations();
            for (Rule rule : table.rules()) {
                Table other = table.without(rule);
                if (combinations.stream().allMatch(k -> table.result(k) == other.result(k))) {
                    found.add(rule);
                }
            }
            return setOf(table, found);
        }

        int unreached(int t) {
            if (!has(t)) {
                return -1;
            }
            int set = 0;
            for (int r = 0; r < tables.get(t).rules().size(); r++) {
                boolean reached = false;
                for (int at = 0; at < 512; at++) {
                    reached |= fires(t, at) / (1 << r) % 2 == 1;
                }
                set += reached ? 0 : 1 << r;
            }
            return set;
        }

        int count(int v, int x) {
            if (outside(v, 8) || outside(x, 8)) {
                return -1;
            }
            int found = 0;
            for (int at = 511; at >= 0; at--) {
                found += variables(at)[v] == x ? 1 : 0;
            }
            return found;
        }

        int first(int v, int x) {
            if (outside(v, 8) || outside(x, 8)) {
                return -1;
            }
            int found = -3;
            for (int at = 511; at >= 0; at--) {
                found = variables(at)[v] == x ? at : found;
            }
            return found;
        }

        int possible(int v) {
            if (outside(v, 8)) {
                return -1;
            }
            int set = 0;
            for (int x = 0; x < 8; x++) {
                set += count(v, x) > 0 ? 1 << x : 0;
            }
            return set;
        }

        /** Whether the two cases have the same inputs but for input i, which is smaller in the first. */
        boolean below(int one, int other, int i) {
            int[] a = variables(one);
            int[] b = variables(other);
            for (int j = 0; j < 3; j++) {
                if (j == i ? a[j] >= b[j] : a[j] != b[j]) {
                    return false;
                }
            }
            return true;
        }

        int depends(int v) {
            if (outside(v, 8)) {
                return -1;
            }
            boolean[] found = new boolean[3];
            for (int one = 0; one < 512; one++) {
                for (int other = one + 1; other < 512; other++) {
                    if (variables(one)[v] != variables(other)[v]) {
                        for (int i = 0; i < 3; i++) {
                            found[i] |= below(one, other, i);
                        }
                    }
                }
            }
            return (found[0] ? 1 : 0) + (found[1] ? 2 : 0) + (found[2] ? 4 : 0);
        }

        int rising(int v, int i) {
            if (outside(v, 8) || outside(i, 3)) {
                return 0;
            }
            for (int one = 0; one < 512; one++) {
                for (int other = 0; other < 512; other++) {
                    if (variables(other)[v] < variables(one)[v] && below(one, other, i)) {
                        return 0;
                    }
                }
            }
            return 1;
        }

        int same(int v, int w) {
            if (outside(v, 8) || outside(w, 8)) {
                return 0;
            }
            for (int at = 0; at < 512; at++) {
                if (variables(at)[v] != variables(at)[w]) {
                    return 0;
                }
            }
            return 1;
        }
    }

    private static boolean outside(int x, int bound) {
        return x < 0 || x >= bound;
    }

    /** The next of a fixed row of numbers: the same runs are made each time. */
    private static int below(int bound) {
        seed = seed * 6364136223846793005L + 1442695040888963407L;
        return (int) ((seed >>> 33) % bound);
    }

    /** Mostly an argument from 0 to bound - 1, at times one that is hardly right. */
    private static int argument(int bound) {
        return below(40) == 0 ? ODD[below(ODD.length)] : below(bound);
    }

    private static int columns() {
        if (below(4) == 0) {
            return argument(1000);
        }
        int first = below(8);
        int second = below(3) == 0 ? 9 : below(8);
        int third = second == 9 || below(2) == 0 ? 9 : below(8);
        return first + 10 * second + 100 * third;
    }

    private static int set() {
        return switch (below(5)) {
            case 0 -> 255;
            case 1 -> 1 << below(8);
            case 2 -> below(256) | below(256);
            case 3 -> (1 << below(9)) - 1;
            default -> below(256);
        };
    }

    private static int sets() {
        int all = set() + 256 * set() + 65536 * set();
        return below(40) == 0 ? argument(16777216) : all;
    }

    private static void compare(String call, int got, int want) {
        if (got != want) {
            wrong++;
            System.out.println(call + " answered " + got + ", due is " + want);
        }
    }

    private static void build(DecisionTables x, Model m, String run) {
        int kind = below(20);
        if (kind < 5) {
            int columns = columns();
            int policy = argument(6);
            int otherwise = argument(8);
            compare(run + "table(" + columns + ", " + policy + ", " + otherwise + ")",
                x.table(columns, policy, otherwise), m.table(columns, policy, otherwise));
        } else if (kind < 17) {
            int t = argument(5);
            int sets = sets();
            int result = argument(8);
            compare(run + "rule(" + t + ", " + sets + ", " + result + ")",
                x.rule(t, sets, result), m.rule(t, sets, result));
        } else if (kind < 19) {
            int t = argument(5);
            compare(run + "unrule(" + t + ")", x.unrule(t), m.unrule(t));
        } else {
            compare(run + "drop()", x.drop(), m.drop());
        }
    }

    private static void ask(DecisionTables x, Model m, String run) {
        int t = argument(5);
        int v = argument(8);
        int w = argument(8);
        int i = argument(3);
        int at = argument(512);
        switch (below(12)) {
            case 0 -> compare(run + "value(" + v + ", " + at + ")", x.value(v, at), m.value(v, at));
            case 1 -> compare(run + "fires(" + t + ", " + at + ")", x.fires(t, at), m.fires(t, at));
            case 2 -> compare(run + "gaps(" + t + ")", x.gaps(t), m.gaps(t));
            case 3 -> compare(run + "overlaps(" + t + ")", x.overlaps(t), m.overlaps(t));
            case 4 -> compare(run + "needless(" + t + ")", x.needless(t), m.needless(t));
            case 5 -> compare(run + "unreached(" + t + ")", x.unreached(t), m.unreached(t));
            case 6 -> compare(run + "count(" + v + ", " + w + ")", x.count(v, w), m.count(v, w));
            case 7 -> compare(run + "first(" + v + ", " + w + ")", x.first(v, w), m.first(v, w));
            case 8 -> compare(run + "possible(" + v + ")", x.possible(v), m.possible(v));
            case 9 -> compare(run + "depends(" + v + ")", x.depends(v), m.depends(v));
            case 10 -> compare(run + "rising(" + v + ", " + i + ")", x.rising(v, i) ? 1 : 0, m.rising(v, i));
            default -> compare(run + "same(" + v + ", " + w + ")", x.same(v, w) ? 1 : 0, m.same(v, w));
        }
    }

    public static void main(String[] args) {
        for (int run = 0; run < RUNS && wrong < 20; run++) {
            DecisionTables x = new DecisionTables();
            Model m = new Model();
            // Short runs meet few tables and rules, long ones full tables.
            int calls = run % 10 == 0 ? CALLS : 20 + below(60);
            for (int call = 0; call < calls; call++) {
                String name = "run " + run + ", call " + call + ": ";
                if (below(5) < 3) {
                    build(x, m, name);
                } else {
                    ask(x, m, name);
                }
            }
        }
        System.out.println(wrong == 0 ? "all answers are the model's" : wrong + " answers are not the model's");
        if (wrong != 0) {
            System.exit(1);
        }
    }
}
