// Each sentence of the document that names a boundary case, in the document's order, with a test of its own.
public final class MorselQueryBoundaries extends Checks {
    private static final int[] NO_TABLES = {NULL, -2, -1, 2, 3, Integer.MAX_VALUE};
    private static final int[] NO_COLUMNS = {NULL, -1, 6, 7, Integer.MAX_VALUE};
    private static final int TWO_TO_30 = 1 << 30;
    // The least long is 2^63, wrapped; the greatest is one less.
    private static final int[] LEAST = {12, 12, CONST, TWO_TO_30, CONST, TWO_TO_30, CONST, 8};
    private static final int[] GREATEST = join(11, LEAST, new int[] {CONST, 1});
    // Column 0 * 2^30 * column 1 + column 2: a row of ints can be any long that a test needs.
    private static final int[] WIDE = {10, 12, 12, 0, CONST, TWO_TO_30, 1, 2};
    private static final int[] ALWAYS = {20, CONST, 0, CONST, 0};
    // For the row 7, -3, NULL: what is false, what is true and what is unknown, of each operator that gives a truth.
    private static final int[][][] EACH_TRUTH = {
        {{20, 0, 1}, {21, 0, 1}, {22, 0, 1}, {23, 0, 0}, {33, 0}, {32, 33, 2}, {30, 33, 2, 33, 0}, {31, 33, 0, 33, 1}},
        {{20, 0, 0}, {21, 1, 0}, {22, 0, 0}, {23, 0, 1}, {33, 2}, {32, 33, 0}, {30, 33, 2, 33, 3}, {31, 33, 0, 33, 2}},
        {{20, 0, 2}, {21, 2, 0}, {22, 2, 2}, {23, 0, 2}, {32, 20, 0, 2}, {30, 33, 2, 20, 2, 0}, {31, 21, 0, 2, 33, 0}}};

    public static void main(String[] args) {
        terms();
        values();
        running();
        tables();
        expressions();
        queries();
        end();
    }

    private static void sentence(String words, Runnable test) {
        about = words;
        int before = checks;
        test.run();
        due("the number of checks is more than 0", checks > before, true);
    }

    private static void terms() {
        sentence("An object is used for at most 512 calls after it has been made", MorselQueryBoundaries::all512Calls);
        sentence("REFUSED = -1, FULL = -2", MorselQueryBoundaries::namedAnswers);
        sentence("TABLES 0 and 1, each a list of at most 16 ROWS", MorselQueryBoundaries::bothTablesFull);
        sentence("In the calls the int -2147483648 stands for NULL.", MorselQueryBoundaries::oneIntIsNull);
        sentence("Table 0 has the columns 0, 1, 2, table 1 the columns 3, 4, 5.", MorselQueryBoundaries::columnsOfTables);
        sentence("NUMBERS in expressions are longs (arithmetic wraps) or NULL.", MorselQueryBoundaries::longsWrap);
        sentence("16 the first number, or if that is NULL the second one", MorselQueryBoundaries::firstOrSecond);
        sentence("34 choice of a truth and two numbers: the first number if the truth is true, else the second", MorselQueryBoundaries::choice);
        sentence("CONST, a constant int or NULL (a number).", MorselQueryBoundaries::constants);
        sentence("It has at most 20 tokens.", MorselQueryBoundaries::twentyTokens);
    }

    private static void values() {
        sentence("+ - * / % negation: NULL if an operand is NULL", MorselQueryBoundaries::nullOperands);
        sentence("/ and % are rounded towards zero", MorselQueryBoundaries::rounding);
        sentence("and NULL if the divisor is 0.", MorselQueryBoundaries::divisorZero);
        sentence("= < <= <>: unknown if an operand is NULL.", MorselQueryBoundaries::comparisons);
        sentence("and: false if one is false, else unknown if one is unknown, else true.", MorselQueryBoundaries::and);
        sentence("or: true if one is true, else unknown if one is unknown, else false.", MorselQueryBoundaries::or);
        sentence("not unknown is unknown.", MorselQueryBoundaries::not);
        sentence("\"is NULL\" is true or false.", MorselQueryBoundaries::isNull);
        sentence("At first the filter is CONST 0 = CONST 0, value and key are CONST 0.", MorselQueryBoundaries::firstQuery);
    }

    private static void running() {
        sentence("Mode 0: each row of table 0, with a row of three NULLs for table 1.", MorselQueryBoundaries::modeZero);
        sentence("Mode 1: each row of table 0 with each row of table 1 where the cells l and r are equal and not NULL.",
            MorselQueryBoundaries::modeOne);
        sentence("Mode 2: the same, and each row of table 0 for which there is no such row of table 1, with a row of three NULLs.",
            MorselQueryBoundaries::modeTwo);
        sentence("A pair PASSES if the filter is true for it.", MorselQueryBoundaries::onlyTruePasses);
        sentence("Passing pairs whose keys are equal numbers are one group, those with the key NULL are one group.",
            MorselQueryBoundaries::oneGroup);
        sentence("The groups are numbered from 0 on, the NULL key first, then by ascending key.", MorselQueryBoundaries::numbering);
        sentence("the number of its pairs whose value is not NULL, and of those values the sum (wrapping), the least and the greatest.",
            MorselQueryBoundaries::aggregates);
    }

    private static void tables() {
        sentence("Both tables empty, no pending token, no groups.", MorselQueryBoundaries::newObject);
        sentence("table 0 or 1, else REFUSED.", MorselQueryBoundaries::insertIntoNoTable);
        sentence("FULL if it has 16 rows.", MorselQueryBoundaries::insertIntoFullTable);
        sentence("Else a row with these cells is added at the end; answers the number of rows.", MorselQueryBoundaries::insertAtTheEnd);
        sentence("REFUSED if there is no such table or it has no row with this place (the first has place 0).",
            MorselQueryBoundaries::removeRefused);
        sentence("Else the row is taken out; the rows behind it move up by one.", MorselQueryBoundaries::removeMovesUp);
        sentence("Answers the number of rows.", MorselQueryBoundaries::removeToTheLast);
        sentence("Sets a cell, column 0..5 of its table.", MorselQueryBoundaries::setEachCell);
        sentence("REFUSED if there is no such column or its table has no row with this place.", MorselQueryBoundaries::setRefused);
        sentence("0 if there is no such column or no such row.", MorselQueryBoundaries::cellOfNone);
        sentence("The number of rows of table 0 or 1; REFUSED.", MorselQueryBoundaries::rowsOfAll);
    }

    private static void expressions() {
        sentence("Adds up to three tokens (not CONST) to the pending expression, those of a, b, c that are not -1, in order.",
            MorselQueryBoundaries::putNoneToThree);
        sentence("False, and nothing changes, if one is neither -1 nor a token", MorselQueryBoundaries::putNoToken);
        sentence("or if there would be more than 20.", MorselQueryBoundaries::putBeyondTwenty);
        sentence("False, and nothing changes, if it has 20 tokens.", MorselQueryBoundaries::constantBeyondTwenty);
        sentence("Takes the pending expression (none is pending then)", MorselQueryBoundaries::useTakesAll);
        sentence("False, and the query stays, if what is another number", MorselQueryBoundaries::useForNothing);
        sentence("if the tokens are not exactly one expression", MorselQueryBoundaries::useOfNoExpression);
        sentence("with operands of the right kinds", MorselQueryBoundaries::useOfWrongKinds);
        sentence("or if it is a number for 0 or a truth for 1 and 2.", MorselQueryBoundaries::useOfWrongResult);
    }

    private static void queries() {
        sentence("REFUSED if mode is not 0..2, l is not 0..2 or r is not 3..5 (also in mode 0): nothing changes.",
            MorselQueryBoundaries::runRefused);
        sentence("Else runs the query on the tables as they are.", MorselQueryBoundaries::runAsTheyAre);
        sentence("FULL if there are more than 12 groups: then there are no groups afterwards.", MorselQueryBoundaries::runFull);
        sentence("Else the number of groups.", MorselQueryBoundaries::runUpToTwelve);
        sentence("Of a group of the last run() that was not REFUSED", MorselQueryBoundaries::groupsOfTheLastRun);
        sentence("1: its key (0 for NULL)", MorselQueryBoundaries::keyOfNull);
        sentence("5: the least; 6: the greatest (0 if there are none).", MorselQueryBoundaries::noLeastNoGreatest);
        sentence("0 if there is no such group or what is another number.", MorselQueryBoundaries::noSuchGroup);
        sentence("Changes of tables and expressions leave the groups.", MorselQueryBoundaries::changesLeaveTheGroups);
        sentence("How many pairs passed in the last run() that was not REFUSED (also if it was FULL).", MorselQueryBoundaries::passedInTheLastRun);
        sentence("At first 0.", MorselQueryBoundaries::passedAtFirst);
        sentence("use: no expression is pending afterwards, whatever it answers.", MorselQueryBoundaries::nothingPendingAfterUse);
        sentence("insert: REFUSED is tested before FULL.", MorselQueryBoundaries::insertRefusedBeforeFull);
        sentence("run: REFUSED is tested before FULL.", MorselQueryBoundaries::runRefusedBeforeFull);
    }

    // ---- objects to try refused calls on

    // Groups of an earlier state of the tables, so that a run that should not have been shows; nothing is pending.
    private static MorselQuery someObject() {
        MorselQuery x = new MorselQuery();
        x.insert(0, 1, 5, NULL);
        x.insert(0, 2, NULL, 7);
        x.insert(0, NULL, 9, 8);
        x.insert(0, 2, 4, 6);
        x.insert(1, 1, 10, 20);
        x.insert(1, 2, 11, NULL);
        x.insert(1, 2, NULL, 22);
        query(x, 0, 31, 33, 1, 23, 1, CONST, 9);
        query(x, 1, 10, 1, 16, 4, CONST, 100);
        query(x, 2, 0);
        x.run(2, 0, 3);
        x.set(0, 3, 3);
        return x;
    }

    // The pending tokens lack one number.
    private static MorselQuery pendingObject() {
        MorselQuery x = someObject();
        x.put(11, 0, -1);
        return x;
    }

    // Both tables have 16 rows, and 20 tokens are pending.
    private static MorselQuery fullObject() {
        MorselQuery x = new MorselQuery();
        for (int i = 0; i < 16; i++) {
            x.insert(0, i % 5, i, -i);
            x.insert(1, i, i * 3, i % 4 == 1 ? NULL : 50 - i);
        }
        query(x, 1, 10, 1, 4);
        query(x, 2, 0);
        x.run(1, 0, 3);
        for (int i = 0; i < 9; i++) {
            x.put(15, 15, -1);
        }
        x.put(15, 1, -1);
        return x;
    }

    // Uses up both objects: the query and the pending tokens show only when they are used.
    private static void alike(MorselQuery x, MorselQuery y) {
        for (int table = 0; table < 2; table++) {
            due("afterwards: rows(" + table + ")", x.rows(table), y.rows(table));
        }
        for (int column = 0; column < 6; column++) {
            for (int place = 0; place < 17; place++) {
                due("afterwards: cell(" + column + ", " + place + ")", x.cell(column, place), y.cell(column, place));
            }
        }
        sameGroups("afterwards: ", x, y);
        due("afterwards: run", x.run(2, 0, 3), y.run(2, 0, 3));
        sameGroups("afterwards, run: ", x, y);
        due("afterwards: put", x.put(1, -1, -1), y.put(1, -1, -1));
        due("afterwards: use", x.use(1), y.use(1));
        due("afterwards, pending used: run", x.run(2, 0, 3), y.run(2, 0, 3));
        sameGroups("afterwards, pending used: ", x, y);
    }

    private static void sameGroups(String when, MorselQuery x, MorselQuery y) {
        due(when + "passed()", x.passed(), y.passed());
        for (int number = 0; number < 7; number++) {
            for (int what = 0; what < 7; what++) {
                due(when + "group(" + number + ", " + what + ")", x.group(number, what), y.group(number, what));
            }
        }
    }

    private static void noGroups(MorselQuery x) {
        for (int number = 0; number < 14; number++) {
            for (int what = 0; what < 7; what++) {
                due("group(" + number + ", " + what + ")", x.group(number, what), 0);
            }
        }
    }

    private static void tokensOf(MorselQuery x, int count) {
        for (int i = 0; i < count; i++) {
            due("token " + (i + 1), x.put(15, -1, -1), true);
        }
    }

    // ---- terms

    private static void all512Calls() {
        MorselQuery x = new MorselQuery();
        for (int i = 1; i <= 102; i++) {
            due("constant " + i, x.constant(i), true);
            due("use " + i, x.use(1), true);
            due("insert " + i, x.insert(0, i, i, i), 1);
            due("run " + i, x.run(0, 0, 3), 1);
            due("remove " + i, x.remove(0, 0), 0);
        }
        due("call 511", x.group(0, 4), 102);
        due("call 512", x.group(0, 2), 1);
    }

    private static void namedAnswers() {
        due("REFUSED", MorselQuery.REFUSED, -1);
        due("FULL", MorselQuery.FULL, -2);
    }

    private static void bothTablesFull() {
        MorselQuery x = new MorselQuery();
        for (int i = 0; i < 16; i++) {
            due("row of table 0", x.insert(0, i, 100 + i, 200 + i), i + 1);
            due("row of table 1", x.insert(1, -i, -100 - i, -200 - i), i + 1);
        }
        due("row 17 of table 0", x.insert(0, 7, 7, 7), FULL);
        due("row 17 of table 1", x.insert(1, 7, 7, 7), FULL);
        due("rows of table 0", x.rows(0), 16);
        due("rows of table 1", x.rows(1), 16);
        for (int i = 0; i < 16; i++) {
            for (int c = 0; c < 3; c++) {
                due("cell of table 0", x.cell(c, i), c * 100 + i);
                due("cell of table 1", x.cell(3 + c, i), -c * 100 - i);
            }
        }
    }

    private static void oneIntIsNull() {
        int[] ints = {NULL, NULL + 1, -1, 0, Integer.MAX_VALUE};
        for (int value : ints) {
            int want = value == NULL ? 1 : 0;
            MorselQuery x = withRow(value, 5, 5);
            due("inserted, " + value, x.cell(0, 0), value);
            query(x, 0, 33, 0);
            due("inserted, is NULL of " + value, x.run(0, 0, 3), want);
            x.set(1, 0, value);
            due("set, " + value, x.cell(1, 0), value);
            query(x, 0, 33, 1);
            due("set, is NULL of " + value, x.run(0, 0, 3), want);
            query(x, 0, 33, CONST, value);
            due("constant, is NULL of " + value, x.run(0, 0, 3), want);
        }
        // It stands for NULL in the calls alone: as the outcome of a sum it is a number.
        int[] computed = {11, CONST, NULL + 1, CONST, 1};
        due("is NULL of -2147483647 - 1", truth(join(33, computed)), 0);
        value("-2147483647 - 1", -2147483648L, computed);
        MorselQuery x = withRow(1, 1, 1);
        query(x, 2, computed);
        x.run(0, 0, 3);
        due("the key is not NULL", x.group(0, 0), 0);
        due("the key", x.group(0, 1), -2147483648L);
    }

    private static void columnsOfTables() {
        MorselQuery x = new MorselQuery();
        x.insert(0, 10, 11, 12);
        x.insert(1, 13, 14, 15);
        x.insert(1, 23, 24, 25);
        for (int column = 0; column < 6; column++) {
            due("cell(" + column + ", 0)", x.cell(column, 0), 10 + column);
            due("cell(" + column + ", 1)", x.cell(column, 1), column < 3 ? 0 : 20 + column);
            due("set(" + column + ", 1)", x.set(column, 1, 30 + column), column < 3 ? REFUSED : 2);
            due("set(" + column + ", 0)", x.set(column, 0, 40 + column), column < 3 ? 1 : 2);
        }
        for (int column = 0; column < 6; column++) {
            due("cell(" + column + ", 0) after set", x.cell(column, 0), 40 + column);
            due("cell(" + column + ", 1) after set", x.cell(column, 1), column < 3 ? 0 : 30 + column);
        }
        x.set(0, 0, 7);
        x.set(3, 1, 7);
        for (int column = 0; column < 6; column++) {
            query(x, 1, column);
            x.run(1, 0, 3);
            long want = column == 0 || column == 3 ? 7 : column < 3 ? 40 + column : 30 + column;
            due("column " + column + " in an expression", x.group(0, 4), want);
        }
    }

    private static void longsWrap() {
        int[] one = {CONST, 1};
        value("the least long", Long.MIN_VALUE, LEAST);
        value("the greatest long", Long.MAX_VALUE, GREATEST);
        value("greatest + 1", Long.MIN_VALUE, join(10, GREATEST, one));
        value("1 + greatest", Long.MIN_VALUE, join(10, one, GREATEST));
        value("least + least", 0, join(10, LEAST, LEAST));
        value("greatest + greatest", -2, join(10, GREATEST, GREATEST));
        value("least + greatest", -1, join(10, LEAST, GREATEST));
        value("least - 1", Long.MAX_VALUE, join(11, LEAST, one));
        value("1 - least", Long.MIN_VALUE + 1, join(11, one, LEAST));
        value("greatest - least", -1, join(11, GREATEST, LEAST));
        value("greatest * 2", -2, join(12, GREATEST, new int[] {CONST, 2}));
        value("greatest * greatest", 1, join(12, GREATEST, GREATEST));
        value("least * -1", Long.MIN_VALUE, join(12, LEAST, new int[] {CONST, -1}));
        value("least * least", 0, join(12, LEAST, LEAST));
        value("- least", Long.MIN_VALUE, join(15, LEAST));
        value("- greatest", Long.MIN_VALUE + 1, join(15, GREATEST));
        value("least / -1", Long.MIN_VALUE, join(13, LEAST, new int[] {CONST, -1}));
        value("least % -1", 0, join(14, LEAST, new int[] {CONST, -1}));
        // No wrap where an int would.
        value("2147483647 + 1", 2147483648L, 10, CONST, Integer.MAX_VALUE, CONST, 1);
        value("-2147483647 - 2", -2147483649L, 11, CONST, NULL + 1, CONST, 2);
        value("65536 * 65536", 4294967296L, 12, CONST, 65536, CONST, 65536);
        value("-(-2147483647 - 1)", 2147483648L, 15, 11, CONST, NULL + 1, CONST, 1);
        value("(-2147483647 - 1) / -1", 2147483648L, 13, 11, CONST, NULL + 1, CONST, 1, CONST, -1);
    }

    private static void firstOrSecond() {
        for (int first : new int[] {NULL, NULL + 1, -1, 0, 1, Integer.MAX_VALUE}) {
            value("16 of " + first + " and 8", first == NULL ? 8 : first, 16, CONST, first, CONST, 8);
        }
        value("16 of 0 and NULL", 0, 16, CONST, 0, CONST, NULL);
        nullValue("16 of NULL and NULL", 16, CONST, NULL, 2);
        value("16 of a NULL outcome and 8", 8, 16, 13, 0, CONST, 0, CONST, 8);
        value("16 of NULL and (16 of NULL and 8)", 8, 16, 2, 16, 2, CONST, 8);
        value("16 of (16 of NULL and NULL) and 8", 8, 16, 16, 2, 2, CONST, 8);
    }

    private static void choice() {
        for (int i = 0; i < 3; i++) {
            for (int[] list : EACH_TRUTH[i]) {
                String text = "choice of " + java.util.Arrays.toString(list);
                value(text, i == 1 ? 11 : 12, join(34, list, new int[] {CONST, 11, CONST, 12}));
                int[] firstNull = join(34, list, new int[] {2, CONST, 12});
                int[] secondNull = join(34, list, new int[] {CONST, 11, 2});
                if (i == 1) {
                    nullValue(text + ", the first NULL", firstNull);
                    value(text + ", the second NULL", 11, secondNull);
                } else {
                    value(text + ", the first NULL", 12, firstNull);
                    nullValue(text + ", the second NULL", secondNull);
                }
            }
        }
    }

    private static void constants() {
        for (int value : new int[] {NULL + 1, -1, 0, 1, 5, 10, 20, 34, 40, Integer.MAX_VALUE}) {
            value("CONST " + value, value, CONST, value);
            due("a number is no filter, CONST " + value, query(new MorselQuery(), 0, CONST, value), false);
        }
        nullValue("CONST NULL", CONST, NULL);
        due("CONST NULL is no filter", query(new MorselQuery(), 0, CONST, NULL), false);
        MorselQuery x = withRow(1, 2, 3);
        due("CONST NULL as the key", query(x, 2, CONST, NULL), true);
        due("run", x.run(0, 0, 3), 1);
        due("the key is NULL", x.group(0, 0), 1);
    }

    private static void twentyTokens() {
        // The deepest, the widest, and the longest chains of choices and of truths.
        value("19 negations", -7, 15, 15, 15, 15, 15, 15, 15, 15, 15, 15, 15, 15, 15, 15, 15, 15, 15, 15, 15, 0);
        value("nine sums before ten operands", -70, 15, 10, 10, 10, 10, 10, 10, 10, 10, 10, 0, 0, 0, 0, 0, 0, 0, 0, 0, 0);
        value("nine differences one in the other", -7, 15, 11, 0, 11, 0, 11, 0, 11, 0, 11, 0, 11, 0, 11, 0, 11, 0, 11, 0, CONST, 0);
        value("four choices one in the other", 5, 15, 15, 15, 34, 33, 0, 1, 34, 33, 0, 1, 34, 33, 0, 1, 34, 33, 0, 1, CONST, -5);
        MorselQuery x = withRow(NULL, NULL, NULL);
        due("six ands of seven truths are taken", query(x, 0, 30, 30, 30, 30, 30, 30, 33, 0, 33, 1, 33, 2, 33, 3, 33, 4, 33, 5, 33, 0), true);
        due("six ands of seven truths", x.run(0, 0, 3), 1);
        x.set(1, 0, 1);
        due("one of the seven is false", x.run(0, 0, 3), 0);
        // Twenty tokens of each one: no expression, but no fault either.
        for (int token = 0; token <= 34; token++) {
            if (isToken(token)) {
                for (int what = 0; what < 3; what++) {
                    x = new MorselQuery();
                    for (int i = 0; i < 20; i++) {
                        x.put(token, -1, -1);
                    }
                    due("a twenty-first token", x.put(token, -1, -1), false);
                    due("use(" + what + ") of twenty times " + token, x.use(what), false);
                }
            }
        }
    }

    // ---- values

    private static void nullOperands() {
        for (int token = 10; token <= 14; token++) {
            for (int other : new int[] {NULL, NULL + 1, -1, 0, 1, Integer.MAX_VALUE}) {
                nullValue(token + " of NULL and " + other, token, CONST, NULL, CONST, other);
                nullValue(token + " of " + other + " and NULL", token, CONST, other, CONST, NULL);
            }
        }
        nullValue("- NULL", 15, CONST, NULL);
        nullValue("- of a NULL cell", 15, 2);
        nullValue("NULL goes on upwards", 10, 0, 12, 1, 15, 2);
    }

    private static void rounding() {
        int[][] parts = {{7, 2}, {-7, 2}, {7, -2}, {-7, -2}, {1, 2}, {-1, 2}, {1, -2}, {-1, -2}, {6, 3}, {-6, 3}, {0, 5}, {0, -5},
            {Integer.MAX_VALUE, 2}, {-Integer.MAX_VALUE, 2}, {1, Integer.MAX_VALUE}, {-1, Integer.MAX_VALUE}};
        for (int[] part : parts) {
            // Worked out over positive numbers alone, where there is but one way to round.
            long size = Math.abs((long) part[0]) / Math.abs((long) part[1]);
            long quotient = (part[0] < 0) == (part[1] < 0) ? size : -size;
            value(part[0] + " / " + part[1], quotient, 13, CONST, part[0], CONST, part[1]);
            value(part[0] + " % " + part[1], part[0] - quotient * part[1], 14, CONST, part[0], CONST, part[1]);
        }
        value("least / 2", -4611686018427387904L, join(13, LEAST, new int[] {CONST, 2}));
        value("least / 3", -3074457345618258602L, join(13, LEAST, new int[] {CONST, 3}));
        value("least % 3", -2, join(14, LEAST, new int[] {CONST, 3}));
        value("greatest / least", 0, join(13, GREATEST, LEAST));
        value("greatest % least", Long.MAX_VALUE, join(14, GREATEST, LEAST));
        value("least / greatest", -1, join(13, LEAST, GREATEST));
        value("least % greatest", -1, join(14, LEAST, GREATEST));
    }

    private static void divisorZero() {
        for (int token = 13; token <= 14; token++) {
            for (int first : new int[] {NULL, NULL + 1, -1, 0, 1, Integer.MAX_VALUE}) {
                nullValue(token + " of " + first + " and 0", token, CONST, first, CONST, 0);
            }
            nullValue(token + " of the least and 0", join(token, LEAST, new int[] {CONST, 0}));
            nullValue(token + " of 7 and a computed 0", token, 0, 11, 1, 1);
            nullValue(token + " of 7 and 2^64, which wraps to 0", join(token, new int[] {0}, join(12, LEAST, new int[] {CONST, 2})));
            // A divisor whose lower 32 bits alone are 0.
            value(token + " of 7 and 2^32", token == 13 ? 0 : 7, token, 0, 12, CONST, 65536, CONST, 65536);
        }
        MorselQuery x = withRow(7, 0, 0);
        query(x, 2, 13, 0, 1);
        due("7 / 0 as the key", x.run(0, 0, 3), 1);
        due("the key is NULL", x.group(0, 0), 1);
    }

    private static void comparisons() {
        for (int token = 20; token <= 23; token++) {
            for (int other : new int[] {NULL, NULL + 1, -1, 0, 1, Integer.MAX_VALUE}) {
                due(token + " of NULL and " + other, truth(token, CONST, NULL, CONST, other), 2);
                due(token + " of " + other + " and NULL", truth(token, CONST, other, CONST, NULL), 2);
            }
        }
        int[][] lists = {LEAST, join(15, GREATEST), {CONST, NULL + 1}, {CONST, -1}, {CONST, 0}, {CONST, 1}, {CONST, Integer.MAX_VALUE},
            {12, CONST, 65536, CONST, 65536}, GREATEST};
        for (int a = 0; a < lists.length; a++) {
            for (int b = 0; b < lists.length; b++) {
                String ab = " of the numbers " + a + " and " + b + " in ascending order";
                due("=" + ab, truth(join(20, lists[a], lists[b])), a == b ? 1 : 0);
                due("<" + ab, truth(join(21, lists[a], lists[b])), a < b ? 1 : 0);
                due("<=" + ab, truth(join(22, lists[a], lists[b])), a <= b ? 1 : 0);
                due("<>" + ab, truth(join(23, lists[a], lists[b])), a != b ? 1 : 0);
            }
        }
    }

    private static void junction(int token, int[][] want) {
        for (int a = 0; a < 3; a++) {
            for (int b = 0; b < 3; b++) {
                for (int[] first : EACH_TRUTH[a]) {
                    for (int[] second : EACH_TRUTH[b]) {
                        int[] list = join(token, first, second);
                        due(java.util.Arrays.toString(list), truth(list), want[a][b]);
                    }
                }
            }
        }
    }

    private static void and() {
        junction(30, new int[][] {{0, 0, 0}, {0, 1, 2}, {0, 2, 2}});
    }

    private static void or() {
        junction(31, new int[][] {{0, 1, 2}, {1, 1, 1}, {2, 1, 2}});
    }

    private static void not() {
        int[] want = {1, 0, 2};
        for (int a = 0; a < 3; a++) {
            for (int[] list : EACH_TRUTH[a]) {
                due("not " + java.util.Arrays.toString(list), truth(join(32, list)), want[a]);
                due("not not " + java.util.Arrays.toString(list), truth(join(32, join(32, list))), a);
            }
        }
        MorselQuery x = withRow(7, -3, NULL);
        query(x, 0, 32, 20, 2, 2);
        due("not unknown does not pass", x.run(0, 0, 3), 0);
        query(x, 0, 32, 32, 20, 2, 2);
        due("nor does not not unknown", x.run(0, 0, 3), 0);
    }

    private static void isNull() {
        for (int value : new int[] {NULL, NULL + 1, -1, 0, 1, Integer.MAX_VALUE}) {
            due("is NULL of " + value, truth(33, CONST, value), value == NULL ? 1 : 0);
        }
        for (int column = 0; column < 6; column++) {
            due("is NULL of column " + column + " in mode 0", truth(33, column), column < 2 ? 0 : 1);
        }
        due("is NULL of NULL + 1", truth(33, 10, 2, CONST, 1), 1);
        due("is NULL of 7 / 0", truth(33, 13, 0, CONST, 0), 1);
        due("is NULL of 7 % 0", truth(33, 14, 0, CONST, 0), 1);
        due("is NULL of the least long", truth(join(33, LEAST)), 0);
    }

    private static void firstQuery() {
        MorselQuery x = withRow(NULL, NULL, NULL);
        x.insert(0, 3, 4, 5);
        due("run", x.run(0, 0, 3), 1);
        groupsAre(x, new long[][] {{0, 0, 2, 2, 0, 0, 0}});
        due("both pass", x.passed(), 2);
        // What is refused leaves the first query too.
        query(x, 0, 0);
        query(x, 1, 20, 0, 0);
        query(x, 2, 33, 0);
        due("run after refused uses", x.run(0, 0, 3), 1);
        groupsAre(x, new long[][] {{0, 0, 2, 2, 0, 0, 0}});
    }

    // ---- running

    private static void modeZero() {
        MorselQuery x = new MorselQuery();
        x.insert(1, 1, 1, 1);
        due("no row in table 0", x.run(0, 0, 3), 0);
        due("no row in table 0: passed", x.passed(), 0);
        for (int i = 0; i < 16; i++) {
            x.insert(0, 1, 1, 1);
            x.run(0, 0, 3);
            due("one pair for each row, though each row matches", x.passed(), i + 1);
        }
        for (int column = 3; column < 6; column++) {
            query(x, 0, 33, column);
            x.run(0, 0, 3);
            due("NULL for column " + column, x.passed(), 16);
        }
    }

    private static void modeOne() {
        MorselQuery x = new MorselQuery();
        due("both tables empty", x.run(1, 0, 3), 0);
        x.insert(0, 1, 1, 1);
        due("table 1 empty", x.run(1, 0, 3), 0);
        x = new MorselQuery();
        x.insert(1, 1, 1, 1);
        due("table 0 empty", x.run(1, 0, 3), 0);
        // Only equal cells, and never two NULLs.
        int[] cells = {NULL, NULL + 1, -1, 0, 1, Integer.MAX_VALUE};
        for (int left : cells) {
            for (int right : cells) {
                x = withRow(left, 0, 0);
                x.insert(1, right, 0, 0);
                due(left + " with " + right, x.run(1, 0, 3), left == right && left != NULL ? 1 : 0);
            }
        }
        for (int l = 0; l < 3; l++) {
            for (int r = 3; r < 6; r++) {
                x = withRow(l == 0 ? 5 : 1, l == 1 ? 5 : 1, l == 2 ? 5 : 1);
                x.insert(1, r == 3 ? 5 : 2, r == 4 ? 5 : 2, r == 5 ? 5 : 2);
                for (int otherL = 0; otherL < 3; otherL++) {
                    for (int otherR = 3; otherR < 6; otherR++) {
                        due("columns " + otherL + " and " + otherR, x.run(1, otherL, otherR), otherL == l && otherR == r ? 1 : 0);
                    }
                }
            }
        }
        x = new MorselQuery();
        for (int i = 0; i < 16; i++) {
            x.insert(0, 5, i, 0);
            x.insert(1, 5, i, 0);
        }
        query(x, 1, 10, 12, CONST, 16, 1, 4);
        due("sixteen rows with sixteen", x.run(1, 0, 3), 1);
        groupsAre(x, new long[][] {{0, 0, 256, 256, 255 * 128, 0, 255}});
    }

    private static void modeTwo() {
        MorselQuery x = new MorselQuery();
        due("both tables empty", x.run(2, 0, 3), 0);
        x.insert(0, 1, 8, 8);
        query(x, 1, 3);
        query(x, 2, 16, 10, 10, 3, 4, 5, CONST, -9);
        due("table 1 empty", x.run(2, 0, 3), 1);
        groupsAre(x, new long[][] {{0, -9, 1, 0, 0, 0, 0}});
        x.insert(0, NULL, 8, 8);
        x.insert(1, NULL, 3, 3);
        due("two NULLs do not match", x.run(2, 0, 3), 1);
        groupsAre(x, new long[][] {{0, -9, 2, 0, 0, 0, 0}});
        x.insert(1, 1, 3, 3);
        x.insert(1, 1, 4, 4);
        due("a row that matches has no pair with NULLs", x.run(2, 0, 3), 3);
        groupsAre(x, new long[][] {{0, -9, 1, 0, 0, 0, 0}, {0, 7, 1, 1, 1, 1, 1}, {0, 9, 1, 1, 1, 1, 1}});
        query(x, 0, 33, 3);
        x.run(2, 0, 3);
        due("not even if the filter lets none of its pairs pass", x.passed(), 1);
        for (int column = 3; column < 6; column++) {
            query(x, 0, 33, column);
            x.run(2, 0, 3);
            due("NULL for column " + column, x.passed(), 1);
        }
        x = new MorselQuery();
        x.insert(1, 1, 1, 1);
        due("a row of table 1 alone makes no pair", x.run(2, 0, 3), 0);
        for (int i = 0; i < 16; i++) {
            x.insert(0, i, 0, 0);
        }
        x.run(2, 0, 3);
        due("fifteen rows without a match and one with it", x.passed(), 16);
    }

    private static void onlyTruePasses() {
        for (int i = 0; i < 3; i++) {
            for (int[] list : EACH_TRUTH[i]) {
                MorselQuery x = withRow(7, -3, NULL);
                due("the filter is taken", query(x, 0, list), true);
                due("groups with " + java.util.Arrays.toString(list), x.run(0, 0, 3), i == 1 ? 1 : 0);
                due("passed with " + java.util.Arrays.toString(list), x.passed(), i == 1 ? 1 : 0);
            }
        }
    }

    private static void oneGroup() {
        MorselQuery x = new MorselQuery();
        int[] keys = {NULL, 0, NULL, 0, NULL + 1, NULL + 1, Integer.MAX_VALUE, Integer.MAX_VALUE};
        for (int key : keys) {
            x.insert(0, key, 1, 1);
        }
        query(x, 2, 0);
        due("NULL is not 0", x.run(0, 0, 3), 4);
        for (int number = 0; number < 4; number++) {
            due("pairs of group " + number, x.group(number, 2), 2);
        }
        // A NULL is a NULL, wherever it comes from.
        query(x, 2, 13, 1, 0);
        due("run by 1 / key", x.run(0, 0, 3), 2);
        groupsAre(x, new long[][] {{1, 0, 4, 4, 0, 0, 0}, {0, 0, 4, 4, 0, 0, 0}});
        query(x, 0, 32, 33, 0);
        due("those that do not pass are in no group", x.run(0, 0, 3), 2);
        due("pairs", x.group(0, 2), 2);
        // Keys that differ only above their lower 32 bits, and keys that are equal after a wrap.
        x = withRow(1, 1, 0);
        x.insert(0, 4, 1, 0);
        x.insert(0, 8, 1, 0);
        query(x, 2, 12, 12, 0, CONST, TWO_TO_30, 1);
        due("keys 2^30, 2^32 and 2^33", x.run(0, 0, 3), 3);
        query(x, 2, 12, 12, 12, 0, CONST, TWO_TO_30, CONST, TWO_TO_30, CONST, 4);
        due("keys 2^62, 2^64 and 2^65", x.run(0, 0, 3), 2);
        due("2^64 and 2^65 wrap to 0", x.group(0, 2), 2);
    }

    private static void numbering() {
        int[][] rows = {{TWO_TO_30, 8, 0}, {TWO_TO_30, 8, 1}, {-1, 8, 0}, {0, 0, NULL + 1}, {0, 0, -1}, {0, 0, 0}, {0, 0, 1},
            {0, 0, Integer.MAX_VALUE}, {1, 8, 0}, {TWO_TO_30, 8, -2}, {TWO_TO_30, 8, -1}};
        long[] keys = {Long.MIN_VALUE, Long.MIN_VALUE + 1, -(1L << 33), NULL + 1, -1, 0, 1, Integer.MAX_VALUE, 1L << 33,
            Long.MAX_VALUE - 1, Long.MAX_VALUE};
        int count = rows.length;
        // Upwards, downwards, and from the middle on; the NULL key comes first, in the middle or last.
        for (int start = 0; start < count; start++) {
            for (int step = 1; step < count; step += 9) {
                MorselQuery x = new MorselQuery();
                for (int i = 0; i < count; i++) {
                    if (i == start) {
                        x.insert(0, NULL, 1, 1);
                    }
                    int[] row = rows[(start + i * step) % count];
                    x.insert(0, row[0], row[1], row[2]);
                }
                query(x, 2, WIDE);
                due("run", x.run(0, 0, 3), 12);
                due("the NULL key is first", x.group(0, 0), 1);
                for (int i = 0; i < count; i++) {
                    due("not NULL", x.group(i + 1, 0), 0);
                    due("key of group " + (i + 1), x.group(i + 1, 1), keys[i]);
                    due("pairs of group " + (i + 1), x.group(i + 1, 2), 1);
                }
                due("no group 12", x.group(12, 2), 0);
            }
        }
        MorselQuery x = withRow(4, 0, 0);
        query(x, 2, 0);
        x.run(0, 0, 3);
        due("without the NULL key the least key has number 0", x.group(0, 1), 4);
    }

    private static void aggregates() {
        int[][][] lists = {
            {{TWO_TO_30, 8, -1}, {0, 0, 1}},
            {{TWO_TO_30, 8, 0}, {0, 0, -1}},
            {{TWO_TO_30, 8, 0}, {TWO_TO_30, 8, -1}},
            {{TWO_TO_30, 8, -1}, {TWO_TO_30, 8, 0}, {TWO_TO_30, 8, 0}},
            {{0, 0, 5}, {NULL, 0, 5}, {0, 0, 3}},
            {{NULL, 0, 5}, {0, 0, -5}, {0, 0, -3}},
            {{0, 0, 0}, {NULL, 0, 0}}};
        long[][] want = {
            {0, 0, 2, 2, Long.MIN_VALUE, 1, Long.MAX_VALUE},
            {0, 0, 2, 2, Long.MAX_VALUE, Long.MIN_VALUE, -1},
            {0, 0, 2, 2, -1, Long.MIN_VALUE, Long.MAX_VALUE},
            {0, 0, 3, 3, Long.MAX_VALUE, Long.MIN_VALUE, Long.MAX_VALUE},
            {0, 0, 3, 2, 8, 3, 5},
            {0, 0, 3, 2, -8, -5, -3},
            {0, 0, 2, 1, 0, 0, 0}};
        for (int i = 0; i < lists.length; i++) {
            MorselQuery x = new MorselQuery();
            for (int[] row : lists[i]) {
                x.insert(0, row[0], row[1], row[2]);
            }
            query(x, 1, WIDE);
            due("run", x.run(0, 0, 3), 1);
            groupsAre(x, new long[][] {want[i]});
        }
    }

    // ---- tables

    private static void newObject() {
        MorselQuery x = new MorselQuery();
        for (int table = 0; table < 2; table++) {
            due("rows(" + table + ")", x.rows(table), 0);
            due("remove(" + table + ", 0)", x.remove(table, 0), REFUSED);
            due("set(" + table * 3 + ", 0, 1)", x.set(table * 3, 0, 1), REFUSED);
        }
        for (int column = 0; column < 6; column++) {
            due("cell(" + column + ", 0)", x.cell(column, 0), 0);
        }
        noGroups(x);
        for (int what = 0; what < 3; what++) {
            due("use(" + what + ")", x.use(what), false);
        }
        x = new MorselQuery();
        tokensOf(x, 20);
        due("token 21", x.put(15, -1, -1), false);
        x = new MorselQuery();
        for (int mode = 0; mode < 3; mode++) {
            due("run of empty tables in mode " + mode, x.run(mode, 0, 3), 0);
            due("passed()", x.passed(), 0);
        }
        noGroups(x);
    }

    private static void insertIntoNoTable() {
        MorselQuery x = pendingObject();
        for (int table : NO_TABLES) {
            due("insert(" + table + ", 1, 2, 3)", x.insert(table, 1, 2, 3), REFUSED);
        }
        alike(x, pendingObject());
    }

    private static void insertIntoFullTable() {
        MorselQuery x = fullObject();
        for (int table = 0; table < 2; table++) {
            due("row 17", x.insert(table, 1, 2, 3), FULL);
            due("row 17 again", x.insert(table, NULL, NULL, NULL), FULL);
        }
        alike(x, fullObject());
        x = fullObject();
        due("one row out", x.remove(0, 7), 15);
        due("table 1 is full still", x.insert(1, 1, 2, 3), FULL);
        due("room for one", x.insert(0, 1, 2, 3), 16);
        due("and for no other", x.insert(0, 1, 2, 3), FULL);
    }

    private static void insertAtTheEnd() {
        for (int table = 0; table < 2; table++) {
            MorselQuery x = new MorselQuery();
            for (int i = 0; i < 16; i++) {
                due("insert", x.insert(table, i, NULL, -i), i + 1);
                due("rows of the other", x.rows(1 - table), 0);
                due("first cell", x.cell(table * 3, i), i);
                due("second cell", x.cell(table * 3 + 1, i), NULL);
                due("third cell", x.cell(table * 3 + 2, i), -i);
                due("the first row", x.cell(table * 3, 0), 0);
                due("behind the end", x.cell(table * 3, i + 1), 0);
            }
        }
    }

    private static void removeRefused() {
        MorselQuery x = pendingObject();
        for (int table : NO_TABLES) {
            due("remove(" + table + ", 0)", x.remove(table, 0), REFUSED);
        }
        for (int place : new int[] {NULL, -2, -1, 4, 5, 15, 16, Integer.MAX_VALUE}) {
            due("remove(0, " + place + ")", x.remove(0, place), REFUSED);
        }
        for (int place : new int[] {NULL, -2, -1, 3, 4, 15, 16, Integer.MAX_VALUE}) {
            due("remove(1, " + place + ")", x.remove(1, place), REFUSED);
        }
        alike(x, pendingObject());
        x = fullObject();
        due("place 16 of 16 rows", x.remove(0, 16), REFUSED);
        due("place -1 of 16 rows", x.remove(1, -1), REFUSED);
        alike(x, fullObject());
        due("an empty table", new MorselQuery().remove(0, 0), REFUSED);
        due("an empty table", new MorselQuery().remove(1, 0), REFUSED);
    }

    private static void removeMovesUp() {
        for (int table = 0; table < 2; table++) {
            for (int place : new int[] {0, 1, 8, 14, 15}) {
                MorselQuery x = fullObject();
                MorselQuery y = fullObject();
                due("remove(" + table + ", " + place + ")", x.remove(table, place), 15);
                for (int c = 0; c < 3; c++) {
                    for (int i = 0; i < 15; i++) {
                        due("cell", x.cell(table * 3 + c, i), y.cell(table * 3 + c, i < place ? i : i + 1));
                    }
                    due("the last place has no row", x.cell(table * 3 + c, 15), 0);
                    for (int i = 0; i < 16; i++) {
                        due("cell of the other", x.cell(3 - table * 3 + c, i), y.cell(3 - table * 3 + c, i));
                    }
                }
                due("rows of the other", x.rows(1 - table), 16);
            }
        }
    }

    private static void removeToTheLast() {
        for (int table = 0; table < 2; table++) {
            MorselQuery first = fullObject();
            MorselQuery last = fullObject();
            for (int rows = 15; rows >= 0; rows--) {
                due("remove of the first", first.remove(table, 0), rows);
                due("remove of the last", last.remove(table, rows), rows);
                due("rows", first.rows(table), rows);
                due("no such row any more", last.remove(table, rows), REFUSED);
            }
            due("remove of none", first.remove(table, 0), REFUSED);
            due("rows of the other", first.rows(1 - table), 16);
            due("a first row again", first.insert(table, 8, 9, 10), 1);
            due("its cell", first.cell(table * 3 + 2, 0), 10);
        }
    }

    private static void setRefused() {
        MorselQuery x = pendingObject();
        for (int column : NO_COLUMNS) {
            due("set(" + column + ", 0, 77)", x.set(column, 0, 77), REFUSED);
        }
        for (int column = 0; column < 6; column++) {
            int rows = column < 3 ? 4 : 3;
            for (int place : new int[] {NULL, -1, rows, 15, 16, Integer.MAX_VALUE}) {
                due("set(" + column + ", " + place + ", 77)", x.set(column, place, 77), REFUSED);
            }
        }
        alike(x, pendingObject());
        x = fullObject();
        for (int column = 0; column < 6; column++) {
            due("set(" + column + ", 16, 77)", x.set(column, 16, 77), REFUSED);
            due("set(" + column + ", -1, 77)", x.set(column, -1, 77), REFUSED);
        }
        due("no column, no row", x.set(6, 16, 77), REFUSED);
        alike(x, fullObject());
        due("an empty table", new MorselQuery().set(0, 0, 77), REFUSED);
    }

    private static void setEachCell() {
        for (int column = 0; column < 6; column++) {
            for (int place : new int[] {0, 7, 15}) {
                MorselQuery x = fullObject();
                MorselQuery y = fullObject();
                due("set to the greatest int", x.set(column, place, Integer.MAX_VALUE), 16);
                due("cell", x.cell(column, place), Integer.MAX_VALUE);
                due("set to NULL", x.set(column, place, NULL), 16);
                due("cell", x.cell(column, place), NULL);
                for (int c = 0; c < 6; c++) {
                    for (int i = 0; i < 16; i++) {
                        if (c != column || i != place) {
                            due("the other cells", x.cell(c, i), y.cell(c, i));
                        }
                    }
                }
            }
        }
        MorselQuery x = pendingObject();
        due("number of rows of table 0", x.set(2, 3, 1), 4);
        due("number of rows of table 1", x.set(3, 2, 1), 3);
    }

    private static void cellOfNone() {
        MorselQuery x = fullObject();
        for (int column : NO_COLUMNS) {
            for (int place : new int[] {NULL, -1, 0, 15, 16, Integer.MAX_VALUE}) {
                due("cell(" + column + ", " + place + ")", x.cell(column, place), 0);
            }
        }
        for (int column = 0; column < 6; column++) {
            for (int place : new int[] {NULL, -1, 16, 17, Integer.MAX_VALUE}) {
                due("cell(" + column + ", " + place + ")", x.cell(column, place), 0);
            }
        }
        alike(x, fullObject());
        x = new MorselQuery();
        x.insert(0, 7, 7, 7);
        x.insert(1, 8, 8, 8);
        x.insert(1, 9, 9, 9);
        due("the last row of table 0", x.cell(2, 0), 7);
        due("behind it, though table 1 has such a row", x.cell(2, 1), 0);
        due("the last row of table 1", x.cell(3, 1), 9);
        x.remove(1, 1);
        due("a row that was taken out", x.cell(3, 1), 0);
        x.remove(1, 0);
        due("the only row that was taken out", x.cell(5, 0), 0);
    }

    private static void rowsOfAll() {
        MorselQuery x = pendingObject();
        for (int table : NO_TABLES) {
            due("rows(" + table + ")", x.rows(table), REFUSED);
        }
        due("rows(0)", x.rows(0), 4);
        due("rows(1)", x.rows(1), 3);
        alike(x, pendingObject());
        due("rows(0) of a full table", fullObject().rows(0), 16);
        due("rows(1) of a full table", fullObject().rows(1), 16);
        due("rows(0) of a new object", new MorselQuery().rows(0), 0);
    }

    // ---- expressions

    private static boolean isToken(int n) {
        return n >= 0 && n <= 5 || n >= 10 && n <= 16 || n >= 20 && n <= 23 || n >= 30 && n <= 34;
    }

    private static void putNoneToThree() {
        // 50 - 8, with every way to spread the three tokens over three calls of put.
        int[] tokens = {11, 0, 1};
        for (int way = 0; way < 512; way++) {
            if (Integer.bitCount(way) == 3) {
                MorselQuery x = withRow(50, 8, 3);
                int next = 0;
                for (int call = 0; call < 3; call++) {
                    int[] three = {-1, -1, -1};
                    for (int k = 0; k < 3; k++) {
                        if ((way >> call * 3 + k & 1) == 1) {
                            three[k] = tokens[next++];
                        }
                    }
                    due("put", x.put(three[0], three[1], three[2]), true);
                }
                due("use, way " + way, x.use(1), true);
                x.run(0, 0, 3);
                due("value, way " + way, x.group(0, 4), 42);
            }
        }
        MorselQuery x = pendingObject();
        due("put of no token", x.put(-1, -1, -1), true);
        alike(x, pendingObject());
        x = fullObject();
        due("put of no token to twenty", x.put(-1, -1, -1), true);
        alike(x, fullObject());
        due("put of no token to none", new MorselQuery().put(-1, -1, -1), true);
    }

    private static void putNoToken() {
        int[] edges = {NULL, -3, -2, 6, 7, 8, 9, 17, 18, 19, 24, 25, 28, 29, 35, 36, 40, 99, Integer.MAX_VALUE};
        MorselQuery x = pendingObject();
        for (int n : edges) {
            due("put(" + n + ", 0, 1)", x.put(n, 0, 1), false);
            due("put(0, " + n + ", 1)", x.put(0, n, 1), false);
            due("put(0, 1, " + n + ")", x.put(0, 1, n), false);
        }
        alike(x, pendingObject());
        x = pendingObject();
        for (int n : edges) {
            due("put(" + n + ", -1, -1)", x.put(n, -1, -1), false);
            due("put(-1, " + n + ", -1)", x.put(-1, n, -1), false);
            due("put(-1, -1, " + n + ")", x.put(-1, -1, n), false);
        }
        alike(x, pendingObject());
        for (int n = -2; n <= 100; n++) {
            due("put(" + n + ", -1, -1)", new MorselQuery().put(n, -1, -1), n == -1 || isToken(n));
            due("put(-1, " + n + ", -1)", new MorselQuery().put(-1, n, -1), n == -1 || isToken(n));
            due("put(-1, -1, " + n + ")", new MorselQuery().put(-1, -1, n), n == -1 || isToken(n));
        }
    }

    private static void putBeyondTwenty() {
        int[][] threes = {{0, -1, -1}, {-1, 0, -1}, {-1, -1, 0}, {15, 0, -1}, {15, -1, 0}, {-1, 15, 0}, {15, 15, 0}};
        for (int pending = 16; pending <= 20; pending++) {
            for (int[] three : threes) {
                int added = (three[0] == -1 ? 0 : 1) + (three[1] == -1 ? 0 : 1) + (three[2] == -1 ? 0 : 1);
                boolean fits = pending + added <= 20;
                MorselQuery x = withRow(7, 8, 9);
                tokensOf(x, pending);
                String call = "put(" + three[0] + ", " + three[1] + ", " + three[2] + ") to " + pending;
                due(call, x.put(three[0], three[1], three[2]), fits);
                if (!fits) {
                    // Nothing was added: there is room for as many as before.
                    tokensOf(x, 19 - pending);
                    due(call + ", then a last token", x.put(-1, 0, -1), pending < 20);
                }
                int count = fits ? pending + added : 20;
                boolean whole = fits || pending < 20;
                due(call + ", then use", x.use(1), whole);
                x.run(0, 0, 3);
                due(call + ", then the value", x.group(0, 4), !whole ? 0 : count % 2 == 1 ? 7 : -7);
            }
        }
        MorselQuery x = fullObject();
        due("one more", x.put(0, -1, -1), false);
        due("three more", x.put(0, 1, 2), false);
        due("one more that is no token", x.put(6, -1, -1), false);
        alike(x, fullObject());
    }

    private static void constantBeyondTwenty() {
        MorselQuery x = fullObject();
        for (int value : ODD_INTS) {
            due("constant(" + value + ") to 20 tokens", x.constant(value), false);
        }
        alike(x, fullObject());
        x = withRow(7, 8, 9);
        tokensOf(x, 19);
        due("constant as token 20", x.constant(6), true);
        due("constant as token 21", x.constant(5), false);
        due("use", x.use(1), true);
        x.run(0, 0, 3);
        due("value", x.group(0, 4), -6);
        x = new MorselQuery();
        for (int i = 0; i < 20; i++) {
            due("constant " + (i + 1), x.constant(i), true);
        }
        due("constant 21", x.constant(20), false);
        due("put of token 21", x.put(0, -1, -1), false);
    }

    private static void useTakesAll() {
        MorselQuery x = withRow(7, 8, 9);
        due("filter", query(x, 0, 21, 0, CONST, 8), true);
        due("none is pending", x.use(0), false);
        due("value", query(x, 1, 1), true);
        due("none is pending", x.use(1), false);
        due("key", query(x, 2, 2), true);
        due("none is pending", x.use(2), false);
        due("run", x.run(0, 0, 3), 1);
        groupsAre(x, new long[][] {{0, 9, 1, 1, 8, 8, 8}});
        x.set(0, 0, 8);
        due("run with the filter false", x.run(0, 0, 3), 0);
        x = fullObject();
        due("use of twenty tokens", x.use(2), true);
        tokensOf(x, 20);
        due("twenty fit again, and no more", x.put(0, -1, -1), false);
    }

    private static void useForNothing() {
        for (int what : new int[] {NULL, -2, -1, 3, 4, Integer.MAX_VALUE}) {
            for (int[] list : new int[][] {{}, {0}, {CONST, 5}, ALWAYS, {33, 2}}) {
                MorselQuery x = someObject();
                due("use(" + what + ")", query(x, what, list), false);
                alike(x, someObject());
            }
        }
    }

    private static void useOfNoExpression() {
        int[][] lists = {{}, {10}, {15}, {20}, {30}, {32}, {33}, {34},
            {10, 0}, {20, 0}, {16, 0}, {30, 33, 0}, {34, 33, 0, 1}, {34, 33, 0},
            {0, 1}, {CONST, 1, CONST, 2}, {0, 10, 1}, {0, 1, 10}, {0, 15}, {10, 0, 1, 2}, {15, 0, 1}, {33, 0, 1}, {20, 0, 1, 2},
            {20, 0, 1, 20, 0, 1}, {34, 33, 0, 1, 2, 0}, {10, 10, 0, 1}, {20, 10, 0, 1}, {0, 10, 0, 1}, {10, 0, 1, 15}};
        for (int[] list : lists) {
            for (int what = 0; what < 3; what++) {
                MorselQuery x = someObject();
                due("use(" + what + ") of " + java.util.Arrays.toString(list), query(x, what, list), false);
                alike(x, someObject());
            }
        }
    }

    private static void useOfWrongKinds() {
        int[][] operands = {{4}, {33, 4}};
        String[] kinds = {"10nnn", "11nnn", "12nnn", "13nnn", "14nnn", "15nn", "16nnn", "20nnt", "21nnt", "22nnt", "23nnt",
            "30ttt", "31ttt", "32tt", "33nt", "34tnnn"};
        for (String kind : kinds) {
            int token = Integer.parseInt(kind.substring(0, 2));
            int count = kind.length() - 3;
            char result = kind.charAt(kind.length() - 1);
            for (int way = 0; way < 1 << count; way++) {
                int[] list = {token};
                boolean right = true;
                for (int i = 0; i < count; i++) {
                    int isTruth = way >> i & 1;
                    int[] head = list;
                    list = java.util.Arrays.copyOf(head, head.length + operands[isTruth].length);
                    System.arraycopy(operands[isTruth], 0, list, head.length, operands[isTruth].length);
                    right &= kind.charAt(2 + i) == (isTruth == 1 ? 't' : 'n');
                }
                for (int what = 0; what < 3; what++) {
                    boolean want = right && result == (what == 0 ? 't' : 'n');
                    MorselQuery x = someObject();
                    due("use(" + what + ") of " + java.util.Arrays.toString(list), query(x, what, list), want);
                    if (!want) {
                        alike(x, someObject());
                    }
                }
            }
        }
    }

    private static void useOfWrongResult() {
        int[][] numbers = {{0}, {5}, {CONST, 0}, {CONST, NULL}, {10, 0, 1}, {15, 0}, {16, 0, 1}, {34, 33, 0, 1, 2}};
        int[][] truths = {{20, 0, 1}, {23, 0, 1}, {30, 33, 0, 33, 1}, {31, 33, 0, 33, 1}, {32, 33, 0}, {33, 0}};
        for (int[] list : numbers) {
            MorselQuery x = someObject();
            due("a number as the filter, " + java.util.Arrays.toString(list), query(x, 0, list), false);
            alike(x, someObject());
            due("as the value", query(someObject(), 1, list), true);
            due("as the key", query(someObject(), 2, list), true);
        }
        for (int[] list : truths) {
            for (int what = 1; what < 3; what++) {
                MorselQuery x = someObject();
                due("use(" + what + ") of a truth, " + java.util.Arrays.toString(list), query(x, what, list), false);
                alike(x, someObject());
            }
            due("as the filter", query(someObject(), 0, list), true);
        }
    }

    private static void nothingPendingAfterUse() {
        int[][] lists = {{}, {0}, {20, 0, 1}, {10}, {0, 1}, {15, 20, 0, 1}};
        for (int[] list : lists) {
            for (int what : new int[] {NULL, -1, 0, 1, 2, 3, Integer.MAX_VALUE}) {
                MorselQuery x = new MorselQuery();
                query(x, what, list);
                for (int again = 0; again < 3; again++) {
                    due("use(" + again + ") of nothing", x.use(again), false);
                }
                query(x, what, list);
                tokensOf(x, 20);
                query(x, what, list);
                due("use of a number alone", query(x, 1, 0), true);
                query(x, what, list);
                due("use of a truth alone", query(x, 0, 33, 0), true);
            }
        }
        // Twenty tokens that are refused are gone too.
        MorselQuery x = new MorselQuery();
        tokensOf(x, 20);
        due("use of twenty negations", x.use(1), false);
        due("use of a number alone", query(x, 1, 0), true);
    }

    // ---- queries

    private static void runRefused() {
        int[] noModes = {NULL, -1, 3, 4, Integer.MAX_VALUE};
        int[] noLefts = {NULL, -1, 3, 4, 5, Integer.MAX_VALUE};
        int[] noRights = {NULL, -1, 0, 1, 2, 6, 7, Integer.MAX_VALUE};
        MorselQuery x = pendingObject();
        for (int mode : noModes) {
            due("run(" + mode + ", 0, 3)", x.run(mode, 0, 3), REFUSED);
            due("run(" + mode + ", 2, 5)", x.run(mode, 2, 5), REFUSED);
        }
        alike(x, pendingObject());
        for (int mode = 0; mode < 3; mode++) {
            x = pendingObject();
            for (int l : noLefts) {
                due("run(" + mode + ", " + l + ", 3)", x.run(mode, l, 3), REFUSED);
            }
            for (int r : noRights) {
                due("run(" + mode + ", 0, " + r + ")", x.run(mode, 0, r), REFUSED);
            }
            due("run(" + mode + ", 3, 2)", x.run(mode, 3, 2), REFUSED);
            alike(x, pendingObject());
        }
        for (int mode = 0; mode < 3; mode++) {
            for (int l = 0; l < 3; l++) {
                for (int r = 3; r < 6; r++) {
                    due("run(" + mode + ", " + l + ", " + r + ") of empty tables", new MorselQuery().run(mode, l, r), 0);
                }
            }
        }
    }

    private static void runAsTheyAre() {
        MorselQuery x = new MorselQuery();
        query(x, 1, 10, 0, 4);
        due("empty", x.run(1, 0, 3), 0);
        x.insert(0, 1, 0, 0);
        x.insert(1, 1, 10, 0);
        due("one row each", x.run(1, 0, 3), 1);
        due("sum", x.group(0, 4), 11);
        x.insert(1, 1, 20, 0);
        due("after insert", x.run(1, 0, 3), 1);
        due("sum", x.group(0, 4), 32);
        x.set(0, 0, 2);
        due("after set of table 0", x.run(1, 0, 3), 0);
        x.set(3, 1, 2);
        due("after set of table 1", x.run(1, 0, 3), 1);
        due("sum", x.group(0, 4), 22);
        x.remove(1, 0);
        due("after remove before the row", x.run(1, 0, 3), 1);
        due("sum", x.group(0, 4), 22);
        x.remove(1, 0);
        due("after remove of the row", x.run(1, 0, 3), 0);
        // A run changes neither the tables nor the query nor what is pending.
        x = pendingObject();
        MorselQuery y = pendingObject();
        x.run(0, 1, 4);
        x.run(1, 2, 5);
        x.run(2, 0, 3);
        y.run(2, 0, 3);
        alike(x, y);
    }

    // Twelve rows with the keys 10, 20, .. 120 and a key of its own behind them.
    private static MorselQuery thirteenRows(int lastKey) {
        MorselQuery x = new MorselQuery();
        for (int i = 1; i <= 12; i++) {
            x.insert(0, i * 10, i, 0);
        }
        x.insert(0, lastKey, 13, 0);
        query(x, 2, 0);
        query(x, 1, 1);
        return x;
    }

    private static void runFull() {
        // The thirteenth key is the least, between others, the greatest or NULL, and comes last or first.
        for (int key : new int[] {NULL + 1, 0, 55, 121, Integer.MAX_VALUE, NULL}) {
            MorselQuery x = thirteenRows(key);
            due("thirteen groups, the last key " + key, x.run(0, 0, 3), FULL);
            noGroups(x);
            x.remove(0, 12);
            x.insert(0, 120, 13, 0);
            due("twelve groups after FULL", x.run(0, 0, 3), 12);
            due("pairs of the last", x.group(11, 2), 2);
            x.set(0, 0, key);
            x.insert(0, 10, 13, 0);
            due("thirteen groups, the first key " + key, x.run(0, 0, 3), FULL);
            noGroups(x);
        }
        // Pairs behind the thirteenth key do not undo it, and neither does a refused run.
        MorselQuery x = thirteenRows(130);
        x.insert(0, 10, 0, 0);
        x.insert(0, 130, 0, 0);
        due("pairs of old groups behind it", x.run(0, 0, 3), FULL);
        due("refused after FULL", x.run(0, 0, 2), REFUSED);
        noGroups(x);
        x.insert(0, 140, 0, 0);
        due("fourteen groups", x.run(0, 0, 3), FULL);
        due("in mode 2", x.run(2, 0, 3), FULL);
        // Groups of a run before are gone too.
        x = thirteenRows(120);
        due("twelve groups", x.run(0, 0, 3), 12);
        x.set(0, 12, 130);
        due("thirteen groups", x.run(0, 0, 3), FULL);
        noGroups(x);
        due("the tables stay", x.rows(0), 13);
        query(x, 0, 21, 0, CONST, 130);
        due("twelve that pass", x.run(0, 0, 3), 12);
        // From joins: twelve keys match, and the thirteenth pair is the row without a match.
        x = thirteenRows(130);
        for (int i = 1; i <= 12; i++) {
            x.insert(1, i * 10, i, 0);
        }
        due("inner join, twelve groups", x.run(1, 0, 3), 12);
        due("left join, thirteen groups", x.run(2, 0, 3), FULL);
        noGroups(x);
        query(x, 2, 3);
        due("left join, the thirteenth key is NULL", x.run(2, 0, 3), FULL);
        due("inner join after FULL", x.run(1, 0, 3), 12);
    }

    private static void runUpToTwelve() {
        MorselQuery x = new MorselQuery();
        query(x, 2, 0);
        due("no groups", x.run(0, 0, 3), 0);
        for (int i = 1; i <= 12; i++) {
            x.insert(0, i == 7 ? NULL : -i, 0, 0);
            due("one group more", x.run(0, 0, 3), i);
        }
        for (int rows = 13; rows <= 16; rows++) {
            x.insert(0, rows == 14 ? NULL : -12, 0, 0);
            due("no group more, " + rows + " rows", x.run(0, 0, 3), 12);
        }
        due("pairs of the key NULL", x.group(0, 2), 2);
        due("pairs of the key -12", x.group(1, 2), 4);
        query(x, 0, 23, 0, 0);
        due("no pair passes", x.run(0, 0, 3), 0);
    }

    private static void groupsOfTheLastRun() {
        MorselQuery x = thirteenRows(20);
        due("run", x.run(0, 0, 3), 12);
        query(x, 0, 21, 0, CONST, 25);
        due("refused", x.run(3, 0, 3), REFUSED);
        due("the groups are those of the run before", x.group(11, 1), 120);
        due("run", x.run(0, 0, 3), 2);
        groupsAre(x, new long[][] {{0, 10, 1, 1, 1, 1, 1}, {0, 20, 2, 2, 15, 2, 13}, {0, 0, 0, 0, 0, 0, 0}});
        due("group 11 of the run before is gone", x.group(11, 1), 0);
        due("the same run again", x.run(0, 0, 3), 2);
        groupsAre(x, new long[][] {{0, 10, 1, 1, 1, 1, 1}, {0, 20, 2, 2, 15, 2, 13}});
        due("a run without a pair", x.run(1, 0, 3), 0);
        noGroups(x);
    }

    private static void keyOfNull() {
        MorselQuery x = new MorselQuery();
        x.insert(0, NULL, 5, 0);
        x.insert(0, 0, 6, 0);
        query(x, 1, 1);
        query(x, 2, 0);
        due("run", x.run(0, 0, 3), 2);
        groupsAre(x, new long[][] {{1, 0, 1, 1, 5, 5, 5}, {0, 0, 1, 1, 6, 6, 6}});
        // Another NULL key: the place in which the key was kept before must not show.
        x.set(0, 0, 77);
        x.set(0, 1, 78);
        due("run", x.run(0, 0, 3), 2);
        query(x, 2, 10, 0, CONST, NULL);
        due("run", x.run(0, 0, 3), 1);
        groupsAre(x, new long[][] {{1, 0, 2, 2, 11, 5, 6}});
        query(x, 2, 13, 0, 2);
        due("run by a quotient without a divisor", x.run(0, 0, 3), 1);
        groupsAre(x, new long[][] {{1, 0, 2, 2, 11, 5, 6}});
    }

    private static void noLeastNoGreatest() {
        MorselQuery x = new MorselQuery();
        x.insert(0, 1, 50, 0);
        x.insert(0, 2, 60, 0);
        query(x, 1, 1);
        query(x, 2, 0);
        due("run", x.run(0, 0, 3), 2);
        // Now without values, in the places of groups that had some.
        x.set(1, 0, NULL);
        x.insert(0, 1, NULL, 0);
        due("run", x.run(0, 0, 3), 2);
        groupsAre(x, new long[][] {{0, 1, 2, 0, 0, 0, 0}, {0, 2, 1, 1, 60, 60, 60}});
        query(x, 1, CONST, NULL);
        due("run", x.run(0, 0, 3), 2);
        groupsAre(x, new long[][] {{0, 1, 2, 0, 0, 0, 0}, {0, 2, 1, 0, 0, 0, 0}});
        // Values that are all above 0 or all below it.
        for (int sign = -1; sign <= 1; sign += 2) {
            x = withRow(sign * 8, 0, 0);
            x.insert(0, sign * 6, 0, 0);
            x.insert(0, NULL, 0, 0);
            x.insert(0, sign * 7, 0, 0);
            query(x, 1, 0);
            due("run", x.run(0, 0, 3), 1);
            due("least", x.group(0, 5), sign > 0 ? 6 : -8);
            due("greatest", x.group(0, 6), sign > 0 ? 8 : -6);
        }
    }

    private static void noSuchGroup() {
        MorselQuery x = thirteenRows(120);
        due("run", x.run(0, 0, 3), 12);
        for (int number : new int[] {NULL, -1, 12, 13, Integer.MAX_VALUE}) {
            for (int what = 0; what < 7; what++) {
                due("group(" + number + ", " + what + ")", x.group(number, what), 0);
            }
        }
        for (int number = 0; number < 12; number++) {
            for (int what : new int[] {NULL, -7, -1, 7, 8, 14, Integer.MAX_VALUE}) {
                due("group(" + number + ", " + what + ")", x.group(number, what), 0);
            }
        }
        groupsAre(x, new long[][] {{0, 10, 1, 1, 1, 1, 1}});
        due("the last group", x.group(11, 6), 13);
        x = withRow(3, 4, 5);
        x.run(0, 0, 3);
        due("a second group of one", x.group(1, 2), 0);
        due("an only group", x.group(0, 2), 1);
    }

    private static void changesLeaveTheGroups() {
        long[][] groups = {{1, 0, 1, 1, 2, 2, 2}, {0, 5, 2, 1, 7, 7, 7}};
        MorselQuery x = withRow(5, 7, 0);
        x.insert(0, NULL, 2, 0);
        x.insert(0, 5, NULL, 0);
        query(x, 1, 1);
        query(x, 2, 0);
        due("run", x.run(0, 0, 3), 2);
        x.insert(0, 1, 1, 1);
        x.insert(1, 1, 1, 1);
        groupsAre(x, groups);
        x.set(0, 0, NULL);
        x.set(1, 1, 99);
        groupsAre(x, groups);
        while (x.rows(0) > 0) {
            x.remove(0, 0);
        }
        groupsAre(x, groups);
        due("put", x.put(15, 15, 1), true);
        due("use", x.use(1), true);
        groupsAre(x, groups);
        due("another key", query(x, 2, CONST, 4), true);
        due("another filter", query(x, 0, 33, CONST, 4), true);
        due("no expression", query(x, 2, 10, 20), false);
        groupsAre(x, groups);
        due("passed", x.passed(), 3);
    }

    private static void passedInTheLastRun() {
        MorselQuery x = thirteenRows(130);
        due("FULL", x.run(0, 0, 3), FULL);
        due("passed in a FULL run", x.passed(), 13);
        x.insert(0, 10, 0, 0);
        x.insert(0, 10, 0, 0);
        due("tables do not change it", x.passed(), 13);
        due("FULL, with more behind the thirteenth key", x.run(0, 0, 3), FULL);
        due("passed counts those behind it", x.passed(), 15);
        due("refused after FULL", x.run(0, 3, 3), REFUSED);
        due("passed stays", x.passed(), 15);
        query(x, 0, 21, 0, CONST, 30);
        due("expressions do not change it", x.passed(), 15);
        due("run", x.run(0, 0, 3), 2);
        due("passed", x.passed(), 4);
        due("refused", x.run(-1, 0, 3), REFUSED);
        due("passed stays", x.passed(), 4);
        query(x, 0, 20, 0, CONST, NULL);
        due("unknown for all", x.run(0, 0, 3), 0);
        due("none passed", x.passed(), 0);
        x = new MorselQuery();
        for (int i = 0; i < 16; i++) {
            x.insert(0, 1, i, 0);
            x.insert(1, 1, i, 0);
        }
        query(x, 2, 1);
        due("FULL from a join", x.run(1, 0, 3), FULL);
        due("all 256 pairs passed", x.passed(), 256);
    }

    private static void passedAtFirst() {
        MorselQuery x = new MorselQuery();
        due("at once", x.passed(), 0);
        x.insert(0, 1, 2, 3);
        query(x, 1, 0);
        due("before a run", x.passed(), 0);
        due("refused", x.run(0, 0, 6), REFUSED);
        due("after a refused run", x.passed(), 0);
        due("run", x.run(0, 0, 3), 1);
        due("after a run", x.passed(), 1);
    }

    private static void insertRefusedBeforeFull() {
        MorselQuery x = fullObject();
        for (int table : NO_TABLES) {
            due("insert(" + table + ", ..) with both tables full", x.insert(table, 1, 2, 3), REFUSED);
        }
        due("insert(0, ..)", x.insert(0, 1, 2, 3), FULL);
        due("insert(1, ..)", x.insert(1, 1, 2, 3), FULL);
    }

    private static void runRefusedBeforeFull() {
        MorselQuery x = thirteenRows(120);
        due("twelve groups", x.run(0, 0, 3), 12);
        x.set(0, 12, 130);
        due("mode 3", x.run(3, 0, 3), REFUSED);
        due("mode -1", x.run(-1, 0, 3), REFUSED);
        due("l -1", x.run(0, -1, 3), REFUSED);
        due("l 3", x.run(0, 3, 3), REFUSED);
        due("r 2", x.run(0, 0, 2), REFUSED);
        due("r 6", x.run(0, 0, 6), REFUSED);
        due("the groups stay", x.group(11, 2), 2);
        due("and passed", x.passed(), 13);
        due("FULL", x.run(0, 0, 3), FULL);
    }
}
