/** The calls of README.md's example, with the answers that it tells. */
public final class ReadmeTest {
    private static int wrong = 0;

    private static void due(String call, int got, int want) {
        if (got != want) {
            wrong++;
            System.out.println(call + " answered " + got + ", README.md says " + want);
        }
    }

    public static void main(String[] args) {
        DecisionTables tables = new DecisionTables();
        int t = tables.table(910, 0, 5);
        due("table(910, 0, 5)", t, 0);
        due("rule(t, 15 + 256 * 3, 1)", tables.rule(t, 15 + 256 * 3, 1), 1);
        due("value(3 + t, 2 + 8 * 1 + 64 * 6)", tables.value(3 + t, 2 + 8 * 1 + 64 * 6), 1);
        due("gaps(t)", tables.gaps(t), 56);
        due("depends(3 + t)", tables.depends(3 + t), 3);
        int u = tables.table(993, 4, 0);
        due("table(993, 4, 0)", u, 1);
        due("rule(u, 2, 6)", tables.rule(u, 2, 6), 1);
        due("rule(u, 4, 7)", tables.rule(u, 4, 7), 2);
        due("unreached(u)", tables.unreached(u), 2);
        due("count(3 + u, 6)", tables.count(3 + u, 6), 64);
        due("first(3 + u, 7)", tables.first(3 + u, 7), DecisionTables.NONE);
        System.out.println(wrong == 0 ? "README.md's example holds" : wrong + " answers are not README.md's");
        if (wrong != 0) {
            System.exit(1);
        }
    }
}
