// Each promise of the document by itself: ordinary inputs, the edges that the document names, and wrong inputs.
public final class MorselQueryPromises extends Checks {
    public static void main(String[] args) {
        newObject();
        insert();
        remove();
        set();
        cell();
        rows();
        put();
        constant();
        use();
        useKinds();
        run();
        runJoins();
        arithmetic();
        nullsAndChoices();
        truths();
        group();
        groupOrder();
        groupAggregates();
        passed();
        orderAndLimits();
        end();
    }

    // ---- promise 1

    private static void newObject() {
        about = "promise 1";
        MorselQuery x = new MorselQuery();
        due("rows(0)", x.rows(0), 0);
        due("rows(1)", x.rows(1), 0);
        due("passed()", x.passed(), 0);
        for (int number = -1; number < 14; number++) {
            for (int what = -1; what < 8; what++) {
                due("group(" + number + ", " + what + ")", x.group(number, what), 0);
            }
        }
        for (int column = 0; column < 6; column++) {
            due("cell(" + column + ", 0)", x.cell(column, 0), 0);
        }
        due("run of empty tables", x.run(0, 0, 3), 0);
        due("run of empty tables", x.run(1, 0, 3), 0);
        due("run of empty tables", x.run(2, 0, 3), 0);
        for (int what = 0; what < 3; what++) {
            due("use(" + what + ") without a token", new MorselQuery().use(what), false);
        }
        // No token is pending: twenty fit, and one alone is the whole expression.
        x = new MorselQuery();
        for (int i = 0; i < 20; i++) {
            due("constant of twenty", x.constant(0), true);
        }
        due("constant 21", x.constant(0), false);
        // The query at first: filter true, value 0, key 0.
        x = withRow(5, 6, 7);
        x.insert(0, NULL, NULL, NULL);
        due("first query", x.run(0, 0, 3), 1);
        due("first filter", x.passed(), 2);
        due("first key is not NULL", x.group(0, 0), 0);
        due("first key", x.group(0, 1), 0);
        due("first value is not NULL", x.group(0, 3), 2);
        due("first value", x.group(0, 4), 0);
        due("first value", x.group(0, 5), 0);
        due("first value", x.group(0, 6), 0);
        // Each of the three by itself, while the other two are others.
        query(x, 2, 0);
        due("first filter and value with another key", x.run(0, 0, 3), 2);
        due("key", x.group(1, 1), 5);
        due("first value", x.group(1, 3), 1);
        due("first value", x.group(1, 4), 0);
        x = withRow(5, 6, 7);
        query(x, 1, 1);
        due("first filter and key with another value", x.run(0, 0, 3), 1);
        due("first key", x.group(0, 1), 0);
        due("value", x.group(0, 4), 6);
        x = withRow(5, 6, 7);
        query(x, 0, 20, 0, CONST, 5);
        due("first key and value with another filter", x.run(0, 0, 3), 1);
        due("first key", x.group(0, 1), 0);
        due("first value", x.group(0, 4), 0);
    }

    // ---- promise 2

    private static void insert() {
        about = "promise 2";
        for (int table = 0; table < 2; table++) {
            MorselQuery x = new MorselQuery();
            for (int i = 0; i < 16; i++) {
                due("insert", x.insert(table, i, 100 + i, i == 3 ? NULL : -i), i + 1);
            }
            due("insert 17", x.insert(table, 1, 2, 3), FULL);
            due("insert 18", x.insert(table, 1, 2, 3), FULL);
            due("rows", x.rows(table), 16);
            due("rows of the other", x.rows(1 - table), 0);
            for (int i = 0; i < 16; i++) {
                due("cell a", x.cell(table * 3, i), i);
                due("cell b", x.cell(table * 3 + 1, i), 100 + i);
                due("cell c", x.cell(table * 3 + 2, i), i == 3 ? NULL : -i);
            }
            due("the other still takes one", x.insert(1 - table, 7, 8, 9), 1);
            due("cell of the other", x.cell((1 - table) * 3 + 2, 0), 9);
            due("the first is as it was", x.cell(table * 3, 0), 0);
        }
        MorselQuery x = new MorselQuery();
        for (int table : new int[] {NULL, -2, -1, 2, 3, Integer.MAX_VALUE}) {
            due("insert into table " + table, x.insert(table, 1, 2, 3), REFUSED);
        }
        due("rows", x.rows(0) + x.rows(1), 0);
        due("insert of extreme ints", x.insert(1, Integer.MAX_VALUE, -Integer.MAX_VALUE, NULL), 1);
        due("cell", x.cell(3, 0), Integer.MAX_VALUE);
        due("cell", x.cell(4, 0), -Integer.MAX_VALUE);
        due("cell", x.cell(5, 0), NULL);
    }

    // ---- promise 3

    private static void remove() {
        about = "promise 3";
        for (int table = 0; table < 2; table++) {
            for (int place = 0; place < 16; place++) {
                MorselQuery x = new MorselQuery();
                for (int i = 0; i < 16; i++) {
                    x.insert(table, i, 100 + i, 200 + i);
                    x.insert(1 - table, -i, -100 - i, -200 - i);
                }
                due("remove", x.remove(table, place), 15);
                due("rows", x.rows(table), 15);
                due("rows of the other", x.rows(1 - table), 16);
                for (int i = 0; i < 16; i++) {
                    int from = i < place ? i : i + 1;
                    for (int c = 0; c < 3; c++) {
                        due("cell " + i, x.cell(table * 3 + c, i), i == 15 ? 0 : c * 100 + from);
                        due("cell of the other", x.cell((1 - table) * 3 + c, i), -c * 100 - i);
                    }
                }
                due("no last row any more", x.remove(table, 15), REFUSED);
                due("insert at the end", x.insert(table, 50, 51, 52), 16);
                due("cell at the end", x.cell(table * 3 + 1, 15), 51);
            }
        }
        MorselQuery x = new MorselQuery();
        due("remove from an empty table", x.remove(0, 0), REFUSED);
        due("remove from an empty table", x.remove(1, 0), REFUSED);
        x.insert(0, 1, 2, 3);
        x.insert(0, 4, 5, 6);
        x.insert(1, 7, 8, 9);
        for (int place : ODD_INTS) {
            if (place < 0 || place > 1) {
                due("remove(0, " + place + ")", x.remove(0, place), REFUSED);
            }
        }
        due("remove(1, 1)", x.remove(1, 1), REFUSED);
        for (int table : new int[] {NULL, -1, 2, Integer.MAX_VALUE}) {
            due("remove(" + table + ", 0)", x.remove(table, 0), REFUSED);
        }
        due("rows", x.rows(0), 2);
        due("rows", x.rows(1), 1);
        due("remove(0, 1)", x.remove(0, 1), 1);
        due("remove(0, 0)", x.remove(0, 0), 0);
        due("remove(0, 0)", x.remove(0, 0), REFUSED);
        due("rows of the other", x.rows(1), 1);
    }

    // ---- promise 4

    private static void set() {
        about = "promise 4";
        MorselQuery x = new MorselQuery();
        x.insert(0, 1, 2, 3);
        x.insert(0, 4, 5, 6);
        x.insert(1, 7, 8, 9);
        x.insert(1, 10, 11, 12);
        x.insert(1, 13, 14, 15);
        for (int column = 0; column < 6; column++) {
            int rows = column < 3 ? 2 : 3;
            for (int place = 0; place < rows; place++) {
                due("set", x.set(column, place, column * 10 + place), rows);
            }
            due("set behind the last row", x.set(column, rows, 5), REFUSED);
            due("set before the first row", x.set(column, -1, 5), REFUSED);
            for (int place : ODD_INTS) {
                if (place < 0 || place >= rows) {
                    due("set(" + column + ", " + place + ")", x.set(column, place, 77), REFUSED);
                }
            }
        }
        for (int column : new int[] {NULL, -3, -1, 6, 7, 100, Integer.MAX_VALUE}) {
            due("set of column " + column, x.set(column, 0, 5), REFUSED);
        }
        for (int column = 0; column < 6; column++) {
            for (int place = 0; place < (column < 3 ? 2 : 3); place++) {
                due("cell", x.cell(column, place), column * 10 + place);
            }
        }
        due("set to NULL", x.set(2, 1, NULL), 2);
        due("cell", x.cell(2, 1), NULL);
        query(x, 0, 33, 2);
        due("a cell set to NULL is NULL", x.run(0, 0, 3), 1);
        due("and only that one", x.passed(), 1);
        due("set of an empty table", new MorselQuery().set(0, 0, 1), REFUSED);
    }

    // ---- promise 5

    private static void cell() {
        about = "promise 5";
        MorselQuery x = new MorselQuery();
        x.insert(0, 11, NULL, 13);
        x.insert(0, 21, 22, 23);
        x.insert(1, 31, 32, NULL);
        due("cell(0, 0)", x.cell(0, 0), 11);
        due("cell(1, 0)", x.cell(1, 0), NULL);
        due("cell(2, 0)", x.cell(2, 0), 13);
        due("cell(0, 1)", x.cell(0, 1), 21);
        due("cell(1, 1)", x.cell(1, 1), 22);
        due("cell(2, 1)", x.cell(2, 1), 23);
        due("cell(3, 0)", x.cell(3, 0), 31);
        due("cell(4, 0)", x.cell(4, 0), 32);
        due("cell(5, 0)", x.cell(5, 0), NULL);
        for (int column : ODD_INTS) {
            for (int place : ODD_INTS) {
                boolean there = column >= 0 && column <= 5 && place >= 0 && place < (column < 3 ? 2 : 1);
                if (!there) {
                    due("cell(" + column + ", " + place + ")", x.cell(column, place), 0);
                }
            }
        }
        x.remove(0, 1);
        due("cell of a row taken out", x.cell(0, 1), 0);
        x.remove(0, 0);
        due("cell of a row taken out", x.cell(0, 0), 0);
        due("cell of the other table", x.cell(3, 0), 31);
    }

    // ---- promise 6

    private static void rows() {
        about = "promise 6";
        MorselQuery x = new MorselQuery();
        for (int i = 1; i <= 16; i++) {
            x.insert(1, 0, 0, 0);
            due("rows(1)", x.rows(1), i);
            due("rows(0)", x.rows(0), 0);
        }
        x.insert(0, 0, 0, 0);
        due("rows(0)", x.rows(0), 1);
        x.remove(1, 5);
        due("rows(1)", x.rows(1), 15);
        for (int table : new int[] {NULL, -2, -1, 2, 3, Integer.MAX_VALUE}) {
            due("rows(" + table + ")", x.rows(table), REFUSED);
        }
    }

    // ---- promise 7

    private static boolean isToken(int n) {
        return n >= 0 && n <= 5 || n >= 10 && n <= 16 || n >= 20 && n <= 23 || n >= 30 && n <= 34;
    }

    private static void put() {
        about = "promise 7";
        for (int n = -200; n <= 300; n++) {
            boolean want = n == -1 || isToken(n);
            due("put(" + n + ", -1, -1)", new MorselQuery().put(n, -1, -1), want);
            due("put(-1, " + n + ", -1)", new MorselQuery().put(-1, n, -1), want);
            due("put(-1, -1, " + n + ")", new MorselQuery().put(-1, -1, n), want);
        }
        due("put of the least int", new MorselQuery().put(NULL, 0, 0), false);
        due("put of the greatest int", new MorselQuery().put(0, 0, Integer.MAX_VALUE), false);
        // A refused put adds none of its tokens.
        int[][] refused = {{6, 0, 0}, {0, 6, 0}, {0, 0, 6}, {-2, 0, 1}, {0, -2, 1}, {0, 1, -2}, {0, 1, 35}, {17, -1, -1}, {24, 1, 0}};
        for (int[] three : refused) {
            MorselQuery x = withRow(5, 6, 7);
            x.put(1, -1, -1);
            due("put with a wrong token", x.put(three[0], three[1], three[2]), false);
            due("what was pending is still an expression", x.use(1), true);
            x.run(0, 0, 3);
            due("and the same one", x.group(0, 4), 6);
        }
        // Order, and -1 in every place.
        int[][] minus = {{11, 0, 1}, {-1, 11, -1}, {11, -1, -1}, {-1, -1, 11}, {11, -1, 0}, {-1, 11, 0}, {11, 0, -1}};
        int[][] rest = {{-1, -1, -1}, {0, 1, -1}, {0, -1, 1}, {-1, 0, 1}, {1, -1, -1}, {-1, -1, 1}, {-1, 1, -1}};
        for (int i = 0; i < minus.length; i++) {
            MorselQuery x = withRow(50, 8, 7);
            due("put", x.put(minus[i][0], minus[i][1], minus[i][2]), true);
            due("put", x.put(rest[i][0], rest[i][1], rest[i][2]), true);
            due("use", x.use(1), true);
            x.run(0, 0, 3);
            due("the tokens in order", x.group(0, 4), 42);
        }
        // The limit: 19 negations and one column.
        for (int free = 0; free <= 3; free++) {
            for (int added = 0; added <= 3; added++) {
                MorselQuery x = withRow(5, 6, 7);
                for (int i = 0; i < 20 - free; i++) {
                    due("put below the limit", x.put(-1, 15, -1), true);
                }
                boolean fits = added <= free;
                due("put of " + added + " with room for " + free, x.put(added > 2 ? 15 : -1, added > 1 ? 15 : -1, added > 0 ? 1 : -1), fits);
                boolean whole = fits && added > 0;
                int pending = 20 - free + (fits ? added : 0);
                if (!whole && pending < 20) {
                    due("nothing was added", x.put(1, -1, -1), true);
                    pending++;
                    whole = true;
                }
                due("use", x.use(1), whole);
                x.run(0, 0, 3);
                due("value", x.group(0, 4), whole ? pending % 2 == 1 ? 6 : -6 : 0);
            }
        }
        MorselQuery x = new MorselQuery();
        for (int i = 0; i < 20; i++) {
            x.constant(1);
        }
        due("put of nothing with 20 tokens", x.put(-1, -1, -1), true);
        due("put of a token with 20 tokens", x.put(-1, 0, -1), false);
        due("put of a wrong token with 20 tokens", x.put(-1, 6, -1), false);
    }

    // ---- promise 8

    private static void constant() {
        about = "promise 8";
        for (int value : new int[] {0, 1, -1, 40, 99, Integer.MAX_VALUE, -Integer.MAX_VALUE}) {
            value("CONST " + value, value, CONST, value);
        }
        nullValue("CONST NULL", CONST, NULL);
        value("NULL, else 5", 5, 16, CONST, NULL, CONST, 5);
        value("3 - 10", -7, 11, CONST, 3, CONST, 10);
        // Twenty tokens at most, and what is refused leaves the pending ones.
        MorselQuery x = withRow(5, 6, 7);
        for (int i = 0; i < 19; i++) {
            due("put", x.put(15, -1, -1), true);
        }
        due("constant 20", x.constant(8), true);
        due("constant 21", x.constant(9), false);
        due("constant 22", x.constant(NULL), false);
        due("use", x.use(1), true);
        x.run(0, 0, 3);
        due("the first twenty", x.group(0, 4), -8);
        // The constants of the three expressions and of the pending one are apart.
        query(x, 0, 20, CONST, 4, CONST, 4);
        query(x, 1, CONST, 21);
        query(x, 2, CONST, 22);
        x.constant(23);
        x.run(0, 0, 3);
        due("passed", x.passed(), 1);
        due("value", x.group(0, 4), 21);
        due("key", x.group(0, 1), 22);
    }

    // ---- promise 9

    private static void use() {
        about = "promise 9";
        // A refused use leaves the query and takes the pending tokens all the same.
        int[][] refused = {{}, {10}, {10, 0}, {0, 1}, {10, 0, 1, 2}, {0, 10, 1}, {0, 1, 10}, {10, 10, 0, 1}, {15}, {0, 15},
            {34, 20, 0, 1, 2}, {32}, {30, 20, 0, 1}, {20, 0}, {20, 0, 1, 2}, {20, 0, 1, 33, 2}, {33}, {33, 0, 1}};
        for (int[] list : refused) {
            for (int what = 0; what < 3; what++) {
                MorselQuery x = withRow(5, 6, 7);
                query(x, 0, 21, 0, 1);
                query(x, 1, 1);
                query(x, 2, 2);
                write(x, list);
                due("use(" + what + ") of " + java.util.Arrays.toString(list), x.use(what), false);
                due("run", x.run(0, 0, 3), 1);
                due("value as it was", x.group(0, 4), 6);
                due("key as it was", x.group(0, 1), 7);
                due("none is pending", query(x, 1, 0), true);
            }
        }
        for (int what : ODD_INTS) {
            if (what >= 0 && what <= 2) {
                continue;
            }
            MorselQuery x = withRow(5, 6, 7);
            query(x, 0, 21, 0, 1);
            query(x, 1, 1);
            query(x, 2, 2);
            due("use(" + what + ") of a number", query(x, what, 0), false);
            due("use(" + what + ") of a truth", query(x, what, 20, 0, 1), false);
            due("run", x.run(0, 0, 3), 1);
            due("value as it was", x.group(0, 4), 6);
            due("key as it was", x.group(0, 1), 7);
            due("none is pending", query(x, 1, 0), true);
        }
        // Each of the three goes to its own place, and again.
        MorselQuery x = withRow(5, 6, 7);
        x.insert(0, 50, 60, 70);
        due("filter", query(x, 0, 21, 0, CONST, 10), true);
        due("value", query(x, 1, 1), true);
        due("key", query(x, 2, 2), true);
        due("run", x.run(0, 0, 3), 1);
        due("value", x.group(0, 4), 6);
        due("key", x.group(0, 1), 7);
        due("filter anew", query(x, 0, 21, CONST, 10, 0), true);
        due("value anew", query(x, 1, 10, 1, 1), true);
        due("key anew", query(x, 2, 15, 2), true);
        due("run", x.run(0, 0, 3), 1);
        due("value", x.group(0, 4), 120);
        due("key", x.group(0, 1), -70);
        due("a taken expression is not pending", x.use(1), false);
        // A shorter expression after a longer one, and the longest.
        query(x, 1, 10, 10, 0, 1, 2);
        query(x, 1, 1);
        x.run(0, 0, 3);
        due("a shorter value", x.group(0, 4), 60);
        due("nine sums and a negation", query(x, 1, 10, 10, 10, 10, 10, 10, 10, 10, 10, 15, 0, 0, 0, 0, 0, 0, 0, 0, 0, 0), true);
        x.run(0, 0, 3);
        due("its value", x.group(0, 4), 400);
        due("the same with the operands first", query(x, 1, 10, 0, 10, 0, 10, 0, 10, 0, 10, 0, 10, 0, 10, 0, 10, 0, 10, 0, 15, 0), true);
        x.run(0, 0, 3);
        due("its value", x.group(0, 4), 400);
        // What stands in the expression is what was pending then.
        x.put(0, -1, -1);
        due("use", x.use(1), true);
        x.put(1, -1, -1);
        x.run(0, 0, 3);
        due("value", x.group(0, 4), 50);
    }

    private static void useKinds() {
        about = "promise 9";
        int[] number = {0};
        int[] constantNumber = {CONST, 3};
        int[] deepNumber = {34, 33, 0, 1, 2};
        int[] truth = {20, 0, 1};
        int[] deepTruth = {30, 33, 0, 32, 22, 1, 2};
        int[][] numbers = {number, constantNumber, deepNumber};
        int[][] truthOnes = {truth, deepTruth};
        for (int token : new int[] {10, 11, 12, 13, 14, 16, 20, 21, 22, 23, 30, 31}) {
            boolean ofTruths = token >= 30;
            boolean isTruth = token >= 20;
            for (int[] n : numbers) {
                for (int[] t : truthOnes) {
                    kinds(join(token, n, n), !ofTruths, isTruth);
                    kinds(join(token, n, t), false, isTruth);
                    kinds(join(token, t, n), false, isTruth);
                    kinds(join(token, t, t), ofTruths, isTruth);
                }
            }
        }
        for (int[] n : numbers) {
            kinds(n, true, false);
            kinds(join(15, n), true, false);
            kinds(join(32, n), false, true);
            kinds(join(33, n), true, true);
            for (int[] t : truthOnes) {
                kinds(t, true, true);
                kinds(join(15, t), false, false);
                kinds(join(32, t), true, true);
                kinds(join(33, t), false, true);
                kinds(join(34, t, n, n), true, false);
                kinds(join(34, n, n, n), false, false);
                kinds(join(34, t, t, n), false, false);
                kinds(join(34, t, n, t), false, false);
                kinds(join(34, t, t, t), false, false);
                kinds(join(34, n, n, t), false, false);
                kinds(join(34, n, t, n), false, false);
                kinds(join(34, t, n), false, false);
            }
        }
    }

    private static void kinds(int[] list, boolean isExpression, boolean isTruth) {
        String text = java.util.Arrays.toString(list);
        due("use(0) of " + text, query(new MorselQuery(), 0, list), isExpression && isTruth);
        due("use(1) of " + text, query(new MorselQuery(), 1, list), isExpression && !isTruth);
        due("use(2) of " + text, query(new MorselQuery(), 2, list), isExpression && !isTruth);
    }

    // ---- promise 10

    private static void run() {
        about = "promise 10";
        for (int mode : ODD_INTS) {
            runRefused(mode);
        }
        // Twelve groups fit, thirteen do not; the key NULL counts as one of them.
        for (int keyOfFirst : new int[] {0, NULL}) {
            MorselQuery x = new MorselQuery();
            query(x, 2, 0);
            x.insert(0, keyOfFirst, 1, 1);
            for (int i = 1; i < 12; i++) {
                x.insert(0, 100 - i, 1, 1);
                due("run", x.run(0, 0, 3), i + 1);
            }
            due("what behind the last one, of the last group", x.group(11, 7), 0);
            due("a group behind the last one", x.group(12, 0), 0);
            x.insert(0, 95, 1, 1);
            due("a thirteenth row of an old group", x.run(0, 0, 3), 12);
            x.insert(0, 1000, 1, 1);
            due("thirteen groups", x.run(0, 0, 3), FULL);
            for (int number = 0; number < 13; number++) {
                for (int what = 0; what < 7; what++) {
                    due("no groups after FULL", x.group(number, what), 0);
                }
            }
            x.insert(0, 95, 1, 1);
            due("a row of an old group behind it", x.run(0, 0, 3), FULL);
            due("passed", x.passed(), 15);
            x.set(0, 13, 90);
            due("twelve again", x.run(0, 0, 3), 12);
            due("pairs", x.group(1, 2) + x.group(2, 2), 3);
        }
        // A thirteenth group that would stand first or in the middle.
        MorselQuery x = new MorselQuery();
        for (int late : new int[] {NULL, -5, 65}) {
            x = new MorselQuery();
            query(x, 2, 0);
            for (int i = 0; i < 12; i++) {
                x.insert(0, i * 10, 0, 0);
            }
            x.insert(0, late, 0, 0);
            due("thirteen groups", x.run(0, 0, 3), FULL);
            due("group", x.group(0, 2), 0);
        }
        // Rows that do not pass make no groups.
        query(x, 0, 21, 0, CONST, 35);
        x.set(0, 12, 15);
        due("five keys pass", x.run(0, 0, 3), 5);
        query(x, 0, 21, 0, CONST, -35);
        due("none passes", x.run(0, 0, 3), 0);
        due("group", x.group(0, 2), 0);
        // All 256 pairs.
        x = new MorselQuery();
        for (int i = 0; i < 16; i++) {
            x.insert(0, 1, i, 0);
            x.insert(1, 1, i, 0);
        }
        query(x, 1, 12, 1, 4);
        for (int mode = 1; mode <= 2; mode++) {
            due("run", x.run(mode, 0, 3), 1);
            due("pairs", x.group(0, 2), 256);
            due("sum", x.group(0, 4), 120 * 120);
        }
        query(x, 2, 10, 1, 4);
        due("too many groups in a join", x.run(1, 0, 3), FULL);
        due("passed", x.passed(), 256);
    }

    // An object of its own for each mode: more than 512 calls are not promised.
    private static void runRefused(int mode) {
        MorselQuery x = new MorselQuery();
        x.insert(0, 1, 2, 3);
        x.insert(0, 2, 3, 4);
        query(x, 2, 0);
        due("run", x.run(0, 0, 3), 2);
        x.remove(0, 0);
        for (int l : ODD_INTS) {
            for (int r : new int[] {NULL, -1, 0, 2, 3, 4, 5, 6, Integer.MAX_VALUE}) {
                boolean right = mode >= 0 && mode <= 2 && l >= 0 && l <= 2 && r >= 3 && r <= 5;
                if (!right) {
                    due("run(" + mode + ", " + l + ", " + r + ")", x.run(mode, l, r), REFUSED);
                }
            }
        }
        due("the groups are as they were", x.group(1, 1), 2);
        due("passed is as it was", x.passed(), 2);
        due("the query is as it was", x.run(0, 2, 5), 1);
        due("passed", x.passed(), 1);
    }

    private static void runJoins() {
        about = "promise 10";
        MorselQuery x = new MorselQuery();
        x.insert(0, 1, 2, NULL);
        x.insert(0, 2, NULL, 4);
        x.insert(0, NULL, 3, 4);
        x.insert(1, 1, NULL, 4);
        x.insert(1, 1, 2, 4);
        x.insert(1, NULL, 7, 5);
        due("mode 0", x.run(0, 0, 3), 1);
        due("mode 0 takes each row of table 0 once", x.passed(), 3);
        query(x, 0, 30, 33, 3, 30, 33, 4, 33, 5);
        x.run(0, 0, 3);
        due("mode 0 has three NULLs for table 1", x.passed(), 3);
        query(x, 0, 20, CONST, 0, CONST, 0);
        // For each l and r: how many rows of table 0 match, pair by pair, worked out by hand.
        int[][] inner = {{2, 1, 0}, {0, 1, 0}, {0, 0, 4}};
        int[][] alone = {{2, 2, 3}, {3, 2, 3}, {3, 3, 1}};
        for (int l = 0; l < 3; l++) {
            for (int r = 3; r < 6; r++) {
                x.run(1, l, r);
                due("inner join of " + l + " and " + r, x.passed(), inner[l][r - 3]);
                x.run(2, l, r);
                due("left join of " + l + " and " + r, x.passed(), inner[l][r - 3] + alone[l][r - 3]);
            }
        }
        // What the pairs hold: the sum over column 1 and column 5 of the pairs of the inner join of 0 and 3.
        query(x, 1, 10, 12, 1, CONST, 100, 5);
        due("run", x.run(1, 0, 3), 1);
        due("pairs", x.group(0, 2), 2);
        due("sum", x.group(0, 4), 408);
        query(x, 1, 4);
        query(x, 2, 0);
        due("left join by column 0", x.run(2, 0, 3), 3);
        due("the NULL row of table 0 is in the left join", x.group(0, 0), 1);
        due("with NULL for column 4", x.group(0, 3), 0);
        due("key 1", x.group(1, 1), 1);
        due("its pairs", x.group(1, 2), 2);
        due("its values that are not NULL", x.group(1, 3), 1);
        due("their sum", x.group(1, 4), 2);
        due("key 2", x.group(2, 1), 2);
        due("its pairs", x.group(2, 2), 1);
        due("its values", x.group(2, 3), 0);
        // The filter comes after the join: a matched row does not come back with NULLs.
        query(x, 0, 20, 0, CONST, 1);
        x.run(2, 0, 3);
        due("left join of key 1", x.passed(), 2);
        query(x, 0, 30, 20, 0, CONST, 1, 20, 4, CONST, 99);
        x.run(2, 0, 3);
        due("left join, all its pairs filtered out", x.passed(), 0);
        query(x, 0, 30, 20, 0, CONST, 1, 33, 3);
        x.run(2, 0, 3);
        due("no pair with NULLs for a matched row", x.passed(), 0);
        // Rows of table 1 alone make no pairs.
        x = new MorselQuery();
        x.insert(1, 1, 1, 1);
        for (int mode = 0; mode < 3; mode++) {
            due("table 0 empty, mode " + mode, x.run(mode, 0, 3), 0);
        }
        x = withRow(1, 1, 1);
        due("table 1 empty, mode 1", x.run(1, 0, 3), 0);
        due("table 1 empty, mode 2", x.run(2, 0, 3), 1);
        // run takes the tables as they are at the call.
        x.insert(1, 1, 5, 5);
        due("mode 1", x.run(1, 0, 3), 1);
        x.set(3, 0, 2);
        due("mode 1 after set", x.run(1, 0, 3), 0);
        due("mode 1 after set, another column", x.run(1, 0, 4), 0);
        x.set(0, 0, 5);
        due("mode 1 after set of table 0", x.run(1, 0, 4), 1);
        x.remove(1, 0);
        due("mode 1 after remove", x.run(1, 0, 4), 0);
    }

    private static void arithmetic() {
        about = "promise 10";
        // The row is 7, -3, NULL.
        value("column 0", 7, 0);
        value("column 1", -3, 1);
        nullValue("column 2", 2);
        for (int column = 3; column < 6; column++) {
            nullValue("column " + column, column);
        }
        value("7 + -3", 4, 10, 0, 1);
        value("7 - -3", 10, 11, 0, 1);
        value("7 * -3", -21, 12, 0, 1);
        value("7 / -3", -2, 13, 0, 1);
        value("-3 / 7", 0, 13, 1, 0);
        value("7 % -3", 1, 14, 0, 1);
        value("-3 % 7", -3, 14, 1, 0);
        value("-7 / 3", -2, 13, 15, 0, CONST, 3);
        value("-7 % 3", -1, 14, 15, 0, CONST, 3);
        value("- -3", 3, 15, 1);
        value("7 - (-3 - 7)", 17, 11, 0, 11, 1, 0);
        value("(7 - -3) - 7", 3, 11, 11, 0, 1, 0);
        nullValue("7 / 0", 13, 0, CONST, 0);
        nullValue("7 % 0", 14, 0, CONST, 0);
        nullValue("0 / 0", 13, CONST, 0, CONST, 0);
        value("0 / 7", 0, 13, CONST, 0, 0);
        value("0 % 7", 0, 14, CONST, 0, 0);
        // Longs: no wrap at 32 bits, a wrap at 64.
        int most = Integer.MAX_VALUE;
        value("most + most", 2L * most, 10, CONST, most, CONST, most);
        value("most * most", (long) most * most, 12, CONST, most, CONST, most);
        value("-most - 1 is a number", Integer.MIN_VALUE, 11, CONST, -most, CONST, 1);
        value("- (-most - 1)", 2147483648L, 15, 11, CONST, -most, CONST, 1);
        value("most ^ 3", (long) most * most * most, 12, CONST, most, 12, CONST, most, CONST, most);
        int[] square = {12, 12, CONST, 65536, CONST, 65536, CONST, 32768};
        int[] least = join(12, square, new int[] {CONST, 65536});
        value("2 ^ 63 wraps", Long.MIN_VALUE, least);
        value("- least", Long.MIN_VALUE, join(15, least));
        value("least - 1", Long.MAX_VALUE, join(11, least, new int[] {CONST, 1}));
        value("least / -1", Long.MIN_VALUE, join(13, least, new int[] {CONST, -1}));
        value("least % -1", 0, join(14, least, new int[] {CONST, -1}));
        value("2 ^ 64 is 0", 0, join(12, least, new int[] {CONST, 2}));
        nullValue("7 / 2 ^ 64", join(13, new int[] {0}, join(12, least, new int[] {CONST, 2})));
        // NULL operands on either side.
        for (int token = 10; token <= 14; token++) {
            nullValue(token + " of NULL and a number", token, 2, 0);
            nullValue(token + " of a number and NULL", token, 0, 2);
            nullValue(token + " of NULL and 0", token, 2, CONST, 0);
            nullValue(token + " of NULL and NULL", token, 2, CONST, NULL);
            nullValue(token + " of 0 and NULL", token, CONST, 0, CONST, NULL);
        }
        nullValue("- NULL", 15, 2);
    }

    private static void nullsAndChoices() {
        about = "promise 10";
        value("first, else second", 7, 16, 0, 1);
        value("NULL, else second", -3, 16, 2, 1);
        value("first, else NULL", 7, 16, 0, 2);
        nullValue("NULL, else NULL", 16, 2, CONST, NULL);
        value("0, else second", 0, 16, CONST, 0, 1);
        value("7 / 0, else 5", 5, 16, 13, 0, CONST, 0, CONST, 5);
        int[] isTrue = {20, 0, 0};
        int[] isFalse = {23, 0, 0};
        int[] unknown = {20, 2, 2};
        int[] both = {0, 1};
        value("choice of true", 7, join(34, isTrue, both));
        value("choice of false", -3, join(34, isFalse, both));
        value("choice of unknown", -3, join(34, unknown, both));
        value("choice of not unknown", -3, join(34, join(32, unknown), both));
        nullValue("choice of true, NULL", join(34, isTrue, new int[] {2, 0}));
        value("choice of false, NULL", 7, join(34, isFalse, new int[] {2, 0}));
        nullValue("choice of false, second NULL", join(34, isFalse, new int[] {0, 2}));
        value("choice of true, second NULL", 7, join(34, isTrue, new int[] {0, 2}));
        nullValue("choice of unknown, second NULL", join(34, unknown, new int[] {0, 2}));
        value("choice in a choice", 12, 34, 33, 2, 34, 33, 0, CONST, 11, CONST, 12, CONST, 13);
        due("7 is NULL", truth(33, 0), 0);
        due("NULL is NULL", truth(33, 2), 1);
        due("0 is NULL", truth(33, CONST, 0), 0);
        due("CONST NULL is NULL", truth(33, CONST, NULL), 1);
        due("7 / 0 is NULL", truth(33, 13, 0, CONST, 0), 1);
        due("-2147483647 - 1 is NULL", truth(33, 11, CONST, -2147483647, CONST, 1), 0);
        due("column 4 is NULL", truth(33, 4), 1);
    }

    private static void truths() {
        about = "promise 10";
        long[] numbers = {-2147483647, -1, 0, 1, 7, 2147483647};
        for (long a : numbers) {
            for (long b : numbers) {
                int[] ab = {CONST, (int) a, CONST, (int) b};
                due(a + " = " + b, truth(join(20, ab)), a == b ? 1 : 0);
                due(a + " < " + b, truth(join(21, ab)), a < b ? 1 : 0);
                due(a + " <= " + b, truth(join(22, ab)), a <= b ? 1 : 0);
                due(a + " <> " + b, truth(join(23, ab)), a != b ? 1 : 0);
            }
            for (int token = 20; token <= 23; token++) {
                due(token + " of NULL and " + a, truth(token, 2, CONST, (int) a), 2);
                due(token + " of " + a + " and NULL", truth(token, CONST, (int) a, 2), 2);
            }
        }
        for (int token = 20; token <= 23; token++) {
            due(token + " of NULL and NULL", truth(token, 2, CONST, NULL), 2);
        }
        // Longs are compared as longs: 2^32 is not 0, and 2^33 is greater than 1.
        due("2^32 = 0", truth(20, 12, CONST, 65536, CONST, 65536, CONST, 0), 0);
        due("1 < 2^33", truth(21, CONST, 1, 12, CONST, 65536, CONST, 131072), 1);
        int[][] some = {{23, 0, 0}, {20, 0, 0}, {20, 2, 2}};
        int[][] and = {{0, 0, 0}, {0, 1, 2}, {0, 2, 2}};
        int[][] or = {{0, 1, 2}, {1, 1, 1}, {2, 1, 2}};
        int[] not = {1, 0, 2};
        for (int a = 0; a < 3; a++) {
            due("truth " + a, truth(some[a]), a);
            due("not " + a, truth(join(32, some[a])), not[a]);
            for (int b = 0; b < 3; b++) {
                due(a + " and " + b, truth(join(30, some[a], some[b])), and[a][b]);
                due(a + " or " + b, truth(join(31, some[a], some[b])), or[a][b]);
                for (int c = 0; c < 3; c++) {
                    due(a + " and (" + b + " or " + c + ")", truth(join(30, some[a], join(31, some[b], some[c]))), and[a][or[b][c]]);
                    due("(" + a + " and " + b + ") or " + c, truth(join(31, join(30, some[a], some[b]), some[c])), or[and[a][b]][c]);
                }
            }
        }
    }

    // ---- promise 11

    private static void group() {
        about = "promise 11";
        MorselQuery x = new MorselQuery();
        x.insert(0, 3, 10, 0);
        x.insert(0, NULL, 20, 0);
        x.insert(0, 3, -4, 0);
        x.insert(0, 1, NULL, 0);
        x.insert(0, 3, NULL, 0);
        query(x, 2, 0);
        query(x, 1, 1);
        long[][] want = {{1, 0, 1, 1, 20, 20, 20}, {0, 1, 1, 0, 0, 0, 0}, {0, 3, 3, 2, 6, -4, 10}};
        due("run", x.run(0, 0, 3), 3);
        groupsAre(x, want);
        for (int number : ODD_INTS) {
            for (int what : new int[] {NULL, -1, 0, 1, 2, 3, 4, 5, 6, 7, 8, Integer.MAX_VALUE}) {
                if (number < 0 || number > 2 || what < 0 || what > 6) {
                    due("group(" + number + ", " + what + ")", x.group(number, what), 0);
                }
            }
        }
        // Changes of tables and expressions leave the groups, and so does a refused run.
        x.set(0, 0, 77);
        x.remove(0, 1);
        x.insert(0, 8, 8, 8);
        x.insert(1, 8, 8, 8);
        groupsAre(x, want);
        query(x, 0, 21, 0, 1);
        query(x, 1, 2);
        query(x, 2, 15, 0);
        x.put(0, 1, 2);
        x.constant(5);
        x.use(5);
        groupsAre(x, want);
        x.run(3, 0, 3);
        x.run(0, 0, 6);
        groupsAre(x, want);
        // The next run has only its own groups.
        query(x, 0, 20, 0, CONST, 8);
        due("run", x.run(0, 0, 3), 1);
        groupsAre(x, new long[][] {{0, -8, 1, 1, 8, 8, 8}, {0, 0, 0, 0, 0, 0, 0}, {0, 0, 0, 0, 0, 0, 0}});
        due("the same run again adds nothing", x.run(0, 0, 3), 1);
        groupsAre(x, new long[][] {{0, -8, 1, 1, 8, 8, 8}});
        query(x, 0, 20, 0, CONST, 9);
        due("run without a passing pair", x.run(0, 0, 3), 0);
        groupsAre(x, new long[][] {{0, 0, 0, 0, 0, 0, 0}});
    }

    private static void groupOrder() {
        about = "promise 11";
        int[] keys = {4, -2, NULL, 0, 2147483647, -2147483647, 1, -1, 4, NULL, 0};
        int[] sorted = {-2147483647, -2, -1, 0, 1, 4, 2147483647};
        int[] pairs = {1, 1, 1, 2, 1, 2, 1};
        for (int turn = 0; turn < keys.length; turn++) {
            MorselQuery x = new MorselQuery();
            for (int i = 0; i < keys.length; i++) {
                x.insert(0, keys[(i + turn) % keys.length], i, 0);
            }
            query(x, 2, 0);
            query(x, 1, 0);
            due("run", x.run(0, 0, 3), 8);
            due("the NULL key is first", x.group(0, 0), 1);
            due("its key", x.group(0, 1), 0);
            due("its pairs", x.group(0, 2), 2);
            for (int i = 0; i < sorted.length; i++) {
                due("not NULL", x.group(i + 1, 0), 0);
                due("key", x.group(i + 1, 1), sorted[i]);
                due("pairs", x.group(i + 1, 2), pairs[i]);
                due("sum", x.group(i + 1, 4), (long) pairs[i] * sorted[i]);
                due("least", x.group(i + 1, 5), sorted[i]);
                due("greatest", x.group(i + 1, 6), sorted[i]);
            }
            // The keys are longs: squares of far ints stay apart and in order.
            query(x, 2, 12, 0, 16, 0, CONST, 1);
            due("run by the square", x.run(0, 0, 3), 6);
            due("greatest key", x.group(5, 1), 2147483647L * 2147483647L);
            due("its pairs", x.group(5, 2), 2);
            query(x, 2, 15, 12, 0, CONST, 2147483647);
            due("run by a negated product", x.run(0, 0, 3), 8);
            due("least key", x.group(1, 1), -2147483647L * 2147483647L);
            due("greatest key", x.group(7, 1), 2147483647L * 2147483647L);
            due("key of 4", x.group(2, 1), -4L * 2147483647L);
        }
        // Keys that are equal only in their lower 32 bits are two groups.
        MorselQuery x = new MorselQuery();
        x.insert(0, 0, 0, 0);
        x.insert(0, 65536, 0, 0);
        query(x, 2, 12, 0, CONST, 65536);
        due("keys 0 and 2^32", x.run(0, 0, 3), 2);
        due("key", x.group(1, 1), 4294967296L);
        // A computed -2147483648 is a key, not NULL.
        x = withRow(1, 0, 0);
        x.insert(0, NULL, 0, 0);
        query(x, 2, 11, CONST, -2147483647, 0);
        due("keys NULL and -2147483648", x.run(0, 0, 3), 2);
        due("NULL", x.group(0, 0), 1);
        due("not NULL", x.group(1, 0), 0);
        due("key", x.group(1, 1), -2147483648L);
    }

    private static void groupAggregates() {
        about = "promise 11";
        // The sum wraps; least and greatest are over longs.
        MorselQuery x = new MorselQuery();
        int most = Integer.MAX_VALUE;
        long square = (long) most * most;
        for (int i = 0; i < 3; i++) {
            x.insert(0, most, 0, 0);
        }
        query(x, 1, 12, 0, 0);
        due("run", x.run(0, 0, 3), 1);
        due("sum wraps", x.group(0, 4), square * 3);
        due("least", x.group(0, 5), square);
        due("greatest", x.group(0, 6), square);
        x.insert(0, 0, 0, 0);
        x.insert(0, NULL, 0, 0);
        x.run(0, 0, 3);
        due("pairs", x.group(0, 2), 5);
        due("values", x.group(0, 3), 4);
        due("least", x.group(0, 5), 0);
        due("greatest", x.group(0, 6), square);
        // All values above 0 or all below: 0 is neither least nor greatest.
        int[][] lists = {{5, 9, 7}, {9, 7, 5}, {-5, -9, -7}, {-9, -7, -5}, {-1, 0, 1}, {1, 0, -1}, {NULL, 3, NULL}, {NULL, NULL, -3}};
        for (int[] list : lists) {
            x = new MorselQuery();
            query(x, 1, 0);
            long count = 0;
            long sum = 0;
            long least = Long.MAX_VALUE;
            long greatest = Long.MIN_VALUE;
            for (int value : list) {
                x.insert(0, value, 0, 0);
                if (value != NULL) {
                    count++;
                    sum += value;
                    least = Math.min(least, value);
                    greatest = Math.max(greatest, value);
                }
            }
            x.run(0, 0, 3);
            due("pairs", x.group(0, 2), list.length);
            due("values", x.group(0, 3), count);
            due("sum", x.group(0, 4), sum);
            due("least", x.group(0, 5), least);
            due("greatest", x.group(0, 6), greatest);
        }
    }

    // ---- promise 12

    private static void passed() {
        about = "promise 12";
        MorselQuery x = new MorselQuery();
        due("at first", x.passed(), 0);
        due("a refused run", x.run(9, 0, 3), REFUSED);
        due("still", x.passed(), 0);
        for (int i = 0; i < 16; i++) {
            x.insert(0, i, i % 4 == 0 ? NULL : i, 0);
        }
        due("tables alone change nothing", x.passed(), 0);
        due("run", x.run(0, 0, 3), 1);
        due("all", x.passed(), 16);
        due("asked again", x.passed(), 16);
        query(x, 0, 21, 1, CONST, 8);
        due("expressions alone change nothing", x.passed(), 16);
        x.run(0, 0, 3);
        due("unknown does not pass", x.passed(), 6);
        x.run(1, 0, 3);
        due("no pairs", x.passed(), 0);
        x.run(2, 0, 3);
        due("left join", x.passed(), 6);
        due("refused", x.run(0, -1, 3), REFUSED);
        due("as before", x.passed(), 6);
        query(x, 2, 0);
        query(x, 0, 20, CONST, 0, CONST, 0);
        due("run", x.run(0, 0, 3), FULL);
        due("passed though FULL", x.passed(), 16);
        due("refused", x.run(0, 0, 2), REFUSED);
        due("as before", x.passed(), 16);
        query(x, 0, 21, 0, CONST, 3);
        due("run", x.run(0, 0, 3), 3);
        due("passed after FULL", x.passed(), 3);
    }

    // ---- promise 13

    private static void orderAndLimits() {
        about = "promise 13";
        // Whatever use answers, nothing is pending: a second use is false, and twenty tokens fit again.
        for (int what = -1; what <= 3; what++) {
            for (int[] list : new int[][] {{0}, {20, 0, 1}, {10}, {0, 1}, {}}) {
                MorselQuery x = new MorselQuery();
                query(x, what, list);
                for (int again = 0; again < 3; again++) {
                    due("use after use", x.use(again), false);
                }
                query(x, what, list);
                for (int i = 0; i < 20; i++) {
                    due("twenty fit", x.constant(1), true);
                }
                due("no more", x.constant(1), false);
            }
        }
        // REFUSED before FULL.
        MorselQuery x = new MorselQuery();
        for (int i = 0; i < 16; i++) {
            x.insert(0, i, 0, 0);
            x.insert(1, i, 0, 0);
        }
        due("insert(2) with full tables", x.insert(2, 0, 0, 0), REFUSED);
        due("insert(-1) with full tables", x.insert(-1, 0, 0, 0), REFUSED);
        due("insert(0) with full tables", x.insert(0, 0, 0, 0), FULL);
        due("insert(1) with full tables", x.insert(1, 0, 0, 0), FULL);
        query(x, 0, 21, 0, CONST, 5);
        query(x, 2, 0);
        due("run", x.run(0, 0, 3), 5);
        query(x, 0, 20, CONST, 0, CONST, 0);
        due("run(3) that would be FULL", x.run(3, 0, 3), REFUSED);
        due("run with l 3 that would be FULL", x.run(0, 3, 3), REFUSED);
        due("run with r 2 that would be FULL", x.run(0, 0, 2), REFUSED);
        due("the groups are as they were", x.group(4, 1), 4);
        due("passed is as it was", x.passed(), 5);
        due("run", x.run(0, 0, 3), FULL);
        // Objects share nothing.
        MorselQuery y = new MorselQuery();
        x.constant(1);
        due("rows of another object", y.rows(0), 0);
        due("passed of another object", y.passed(), 0);
        due("nothing pending in another object", y.use(1), false);
        due("pending in the first", x.use(1), true);
    }
}
