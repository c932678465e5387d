public final class MorselQuery {
    public static final int REFUSED = -1, FULL = -2;

    private static final int NULL = -2147483648;

    private static final int TABLES = 2;
    private static final int COLUMNS = 6;
    private static final int COLUMNS_OF_A_TABLE = 3;
    private static final int MOST_ROWS = 16;
    private static final int CELLS = 96;
    private static final int NO_ROW = -1;

    private static final int NO_TOKEN = -1;
    private static final int LAST_COLUMN = 5;
    private static final int PLUS = 10;
    private static final int MINUS = 11;
    private static final int TIMES = 12;
    private static final int DIVIDE = 13;
    private static final int REMAINDER = 14;
    private static final int NEGATION = 15;
    private static final int FIRST_NOT_NULL = 16;
    private static final int EQUAL = 20;
    private static final int LESS = 21;
    private static final int LESS_OR_EQUAL = 22;
    private static final int NOT_EQUAL = 23;
    private static final int AND = 30;
    private static final int OR = 31;
    private static final int NOT = 32;
    private static final int IS_NULL = 33;
    private static final int CHOICE = 34;
    // No call may name this one: put() takes no CONST.
    private static final int CONST = 40;

    private static final int FILTER = 0;
    private static final int VALUE = 1;
    private static final int KEY = 2;
    private static final int PENDING = 3;
    private static final int EXPRESSIONS = 4;
    private static final int MOST_TOKENS = 20;
    private static final int ALL_TOKENS = 80;

    private static final int NO_KIND = 0;
    private static final int NUMBER = 1;
    private static final int TRUTH = 2;

    // The stack grows downwards, so that operands lie in the order in which they are written.
    private static final int STACK_BOTTOM = 19;

    private static final int INNER_JOIN = 1;
    private static final int LEFT_JOIN = 2;

    private static final int MOST_GROUPS = 12;
    private static final int NO_GROUP = -1;
    private static final int FACTS = 7;
    private static final int ALL_FACTS = 84;
    private static final int FACT_KEY_IS_NULL = 0;
    private static final int FACT_KEY = 1;
    private static final int FACT_PAIRS = 2;
    private static final int FACT_VALUES = 3;
    private static final int FACT_SUM = 4;
    private static final int FACT_LEAST = 5;
    private static final int FACT_GREATEST = 6;

    // Cell (column, place) is at column * MOST_ROWS + place.
    private final int[] cells = new int[CELLS];
    private final int[] rowCounts = new int[TABLES];

    // Token number i of an expression is at expression * MOST_TOKENS + i; constants counts only where the token is CONST.
    private final int[] tokens = new int[ALL_TOKENS];
    private final int[] constants = new int[ALL_TOKENS];
    private final int[] lengths = new int[EXPRESSIONS];
    private final int[] kinds = new int[MOST_TOKENS];

    // A truth is held as 1, 0 or, if it is unknown, as NULL: most operators then need no rule of their own for it.
    private final long[] numbers = new long[MOST_TOKENS];
    private final boolean[] nulls = new boolean[MOST_TOKENS];
    private final int[] pair = new int[COLUMNS];

    // Fact number i of a group is at group * FACTS + i; the groups are always in order of their keys.
    private final long[] facts = new long[ALL_FACTS];
    private int groupCount;
    private int passedCount;
    private boolean tooManyGroups;

    public MorselQuery() {
        tokens[FILTER * MOST_TOKENS] = EQUAL;
        tokens[FILTER * MOST_TOKENS + 1] = CONST;
        tokens[FILTER * MOST_TOKENS + 2] = CONST;
        lengths[FILTER] = 3;
        tokens[VALUE * MOST_TOKENS] = CONST;
        lengths[VALUE] = 1;
        tokens[KEY * MOST_TOKENS] = CONST;
        lengths[KEY] = 1;
    }

    public int insert(int table, int a, int b, int c) {
        if (!hasTable(table)) {
            return REFUSED;
        }
        int place = rowCounts[table];
        if (place >= MOST_ROWS) {
            return FULL;
        }
        int firstColumn = table * COLUMNS_OF_A_TABLE;
        cells[firstColumn * MOST_ROWS + place] = a;
        cells[(firstColumn + 1) * MOST_ROWS + place] = b;
        cells[(firstColumn + 2) * MOST_ROWS + place] = c;
        rowCounts[table] = place + 1;
        return place + 1;
    }

    public int remove(int table, int place) {
        if (!hasTable(table) || !hasRow(table, place)) {
            return REFUSED;
        }
        int last = rowCounts[table] - 1;
        int firstColumn = table * COLUMNS_OF_A_TABLE;
        for (int column = firstColumn; column < firstColumn + COLUMNS_OF_A_TABLE; column++) {
            for (int to = place; to < last; to++) {
                cells[column * MOST_ROWS + to] = cells[column * MOST_ROWS + to + 1];
            }
        }
        rowCounts[table] = last;
        return last;
    }

    public int set(int column, int place, int value) {
        if (!hasCell(column, place)) {
            return REFUSED;
        }
        cells[column * MOST_ROWS + place] = value;
        return rowCounts[column / COLUMNS_OF_A_TABLE];
    }

    public int cell(int column, int place) {
        if (!hasCell(column, place)) {
            return 0;
        }
        return cells[column * MOST_ROWS + place];
    }

    public int rows(int table) {
        if (!hasTable(table)) {
            return REFUSED;
        }
        return rowCounts[table];
    }

    public boolean put(int a, int b, int c) {
        if (!mayBePut(a) || !mayBePut(b) || !mayBePut(c)) {
            return false;
        }
        int added = (a == NO_TOKEN ? 0 : 1) + (b == NO_TOKEN ? 0 : 1) + (c == NO_TOKEN ? 0 : 1);
        if (lengths[PENDING] + added > MOST_TOKENS) {
            return false;
        }
        addToken(a, 0);
        addToken(b, 0);
        addToken(c, 0);
        return true;
    }

    public boolean constant(int value) {
        if (lengths[PENDING] >= MOST_TOKENS) {
            return false;
        }
        addToken(CONST, value);
        return true;
    }

    public boolean use(int what) {
        int length = lengths[PENDING];
        lengths[PENDING] = 0;
        if (what != FILTER && what != VALUE && what != KEY) {
            return false;
        }
        int kind = kindOfPending(length);
        if (kind != (what == FILTER ? TRUTH : NUMBER)) {
            return false;
        }
        for (int i = 0; i < length; i++) {
            tokens[what * MOST_TOKENS + i] = tokens[PENDING * MOST_TOKENS + i];
            constants[what * MOST_TOKENS + i] = constants[PENDING * MOST_TOKENS + i];
        }
        lengths[what] = length;
        return true;
    }

    public int run(int mode, int l, int r) {
        if (mode < 0 || mode > LEFT_JOIN || l < 0 || l >= COLUMNS_OF_A_TABLE || r < COLUMNS_OF_A_TABLE || r >= COLUMNS) {
            return REFUSED;
        }
        groupCount = 0;
        passedCount = 0;
        tooManyGroups = false;
        int leftRows = rowCounts[0];
        for (int left = 0; left < leftRows; left++) {
            considerRow(mode, l, r, left);
        }
        if (tooManyGroups) {
            groupCount = 0;
            return FULL;
        }
        return groupCount;
    }

    public long group(int number, int what) {
        if (number < 0 || number >= groupCount || what < 0 || what >= FACTS) {
            return 0;
        }
        return facts[number * FACTS + what];
    }

    public int passed() {
        return passedCount;
    }

    private static boolean hasTable(int table) {
        return table >= 0 && table < TABLES;
    }

    private boolean hasRow(int table, int place) {
        return place >= 0 && place < rowCounts[table];
    }

    private boolean hasCell(int column, int place) {
        return column >= 0 && column < COLUMNS && hasRow(column / COLUMNS_OF_A_TABLE, place);
    }

    private static boolean mayBePut(int token) {
        return token >= NO_TOKEN && token <= LAST_COLUMN
            || token >= PLUS && token <= FIRST_NOT_NULL
            || token >= EQUAL && token <= NOT_EQUAL
            || token >= AND && token <= CHOICE;
    }

    private void addToken(int token, int value) {
        int length = lengths[PENDING];
        if (token == NO_TOKEN || length >= MOST_TOKENS) {
            return;
        }
        tokens[PENDING * MOST_TOKENS + length] = token;
        constants[PENDING * MOST_TOKENS + length] = value;
        lengths[PENDING] = length + 1;
    }

    private static int operandCount(int token) {
        if (token <= LAST_COLUMN || token == CONST) {
            return 0;
        }
        if (token == NEGATION || token == NOT || token == IS_NULL) {
            return 1;
        }
        return token == CHOICE ? 3 : 2;
    }

    private static int operandKind(int token, int operand) {
        boolean ofTruths = token == AND || token == OR || token == NOT;
        return ofTruths || token == CHOICE && operand == 0 ? TRUTH : NUMBER;
    }

    private static int resultKind(int token) {
        return token >= EQUAL && token <= IS_NULL ? TRUTH : NUMBER;
    }

    // Read from its end, a prefix expression has the operands of each operator ready when the operator comes.
    private int kindOfPending(int length) {
        int top = MOST_TOKENS;
        for (int i = length - 1; i >= 0; i--) {
            int token = tokens[PENDING * MOST_TOKENS + i];
            int operands = operandCount(token);
            if (top + operands > MOST_TOKENS) {
                return NO_KIND;
            }
            for (int operand = 0; operand < operands; operand++) {
                int due = operandKind(token, operand);
                if (kinds[top + operand] != due) {
                    return NO_KIND;
                }
            }
            top = top + operands - 1;
            kinds[top] = resultKind(token);
        }
        return top == STACK_BOTTOM ? kinds[STACK_BOTTOM] : NO_KIND;
    }

    private void considerRow(int mode, int l, int r, int left) {
        boolean joined = false;
        if (mode == INNER_JOIN || mode == LEFT_JOIN) {
            int wanted = cells[l * MOST_ROWS + left];
            int rightRows = rowCounts[1];
            for (int right = 0; right < rightRows; right++) {
                if (wanted != NULL && wanted == cells[r * MOST_ROWS + right]) {
                    joined = true;
                    considerPair(left, right);
                }
            }
        }
        if (mode != INNER_JOIN && !joined) {
            considerPair(left, NO_ROW);
        }
    }

    private void considerPair(int left, int right) {
        loadPair(left, right);
        evaluate(FILTER);
        if (nulls[STACK_BOTTOM] || numbers[STACK_BOTTOM] == 0) {
            return;
        }
        passedCount++;
        evaluate(KEY);
        boolean keyIsNull = nulls[STACK_BOTTOM];
        long key = keyIsNull ? 0 : numbers[STACK_BOTTOM];
        int group = groupWithKey(keyIsNull, key);
        if (group == NO_GROUP) {
            tooManyGroups = true;
            return;
        }
        facts[group * FACTS + FACT_PAIRS]++;
        evaluate(VALUE);
        if (!nulls[STACK_BOTTOM]) {
            addValue(group, numbers[STACK_BOTTOM]);
        }
    }

    private void loadPair(int left, int right) {
        for (int column = 0; column < COLUMNS; column++) {
            int place = column < COLUMNS_OF_A_TABLE ? left : right;
            pair[column] = place == NO_ROW ? NULL : cells[column * MOST_ROWS + place];
        }
    }

    // Leaves its answer at the bottom of the stack. use() has seen to it that the stack suffices.
    private void evaluate(int expression) {
        int top = MOST_TOKENS;
        for (int i = lengths[expression] - 1; i >= 0; i--) {
            int token = tokens[expression * MOST_TOKENS + i];
            int operands = operandCount(token);
            int first = top;
            top = first + operands - 1;
            if (token == CONST) {
                holdCell(top, constants[expression * MOST_TOKENS + i]);
            } else if (operands == 0) {
                holdCell(top, pair[token]);
            } else if (token == AND || token == OR) {
                holdJunction(token, first, top);
            } else if (token == FIRST_NOT_NULL || token == IS_NULL || token == CHOICE) {
                holdDespiteNull(token, first, top);
            } else {
                holdUnlessNull(token, first, top);
            }
        }
    }

    private void holdCell(int to, int value) {
        nulls[to] = value == NULL;
        numbers[to] = value;
    }

    private void holdJunction(int token, int first, int to) {
        // The truth that settles the answer, whatever the other operand is.
        long settling = token == AND ? 0 : 1;
        boolean firstSettles = !nulls[first] && numbers[first] == settling;
        boolean secondSettles = !nulls[first + 1] && numbers[first + 1] == settling;
        boolean settled = firstSettles || secondSettles;
        nulls[to] = !settled && (nulls[first] || nulls[first + 1]);
        numbers[to] = settled ? settling : 1 - settling;
    }

    private void holdDespiteNull(int token, int first, int to) {
        if (token == IS_NULL) {
            numbers[to] = nulls[first] ? 1 : 0;
            nulls[to] = false;
            return;
        }
        int from;
        if (token == FIRST_NOT_NULL) {
            from = nulls[first] ? first + 1 : first;
        } else {
            boolean isTrue = !nulls[first] && numbers[first] == 1;
            from = isTrue ? first + 1 : first + 2;
        }
        numbers[to] = numbers[from];
        nulls[to] = nulls[from];
    }

    private void holdUnlessNull(int token, int first, int to) {
        // With one operand, first and to are the same place, and what is taken for the second one is not looked at.
        long a = numbers[first];
        long b = numbers[to];
        boolean divides = token == DIVIDE || token == REMAINDER;
        nulls[to] = nulls[first] || nulls[to] || divides && b == 0;
        numbers[to] = token >= EQUAL ? truthOf(token, a, b) : numberOf(token, a, b);
    }

    private static long numberOf(int token, long a, long b) {
        switch (token) {
            case PLUS:
                return a + b;
            case MINUS:
                return a - b;
            case TIMES:
                return a * b;
            case DIVIDE:
                return b == 0 ? 0 : a / b;
            case REMAINDER:
                return b == 0 ? 0 : a % b;
            case NEGATION:
            default:
                return -a;
        }
    }

    private static long truthOf(int token, long a, long b) {
        boolean answer;
        switch (token) {
            case EQUAL:
                answer = a == b;
                break;
            case LESS:
                answer = a < b;
                break;
            case LESS_OR_EQUAL:
                answer = a <= b;
                break;
            case NOT_EQUAL:
                answer = a != b;
                break;
            case NOT:
            default:
                answer = a == 0;
                break;
        }
        return answer ? 1 : 0;
    }

    private int groupWithKey(boolean keyIsNull, long key) {
        int groups = groupCount;
        int place = 0;
        for (int i = 0; i < groups; i++) {
            if (comesBefore(i, keyIsNull, key)) {
                place = i + 1;
            }
        }
        if (place < groups && hasKey(place, keyIsNull, key)) {
            return place;
        }
        if (groups >= MOST_GROUPS) {
            return NO_GROUP;
        }
        openGroup(place, keyIsNull, key);
        return place;
    }

    private boolean comesBefore(int group, boolean keyIsNull, long key) {
        if (keyIsNull) {
            return false;
        }
        return facts[group * FACTS + FACT_KEY_IS_NULL] == 1 || facts[group * FACTS + FACT_KEY] < key;
    }

    private boolean hasKey(int group, boolean keyIsNull, long key) {
        boolean groupKeyIsNull = facts[group * FACTS + FACT_KEY_IS_NULL] == 1;
        return groupKeyIsNull == keyIsNull && facts[group * FACTS + FACT_KEY] == key;
    }

    private void openGroup(int place, boolean keyIsNull, long key) {
        int start = place * FACTS;
        for (int from = groupCount * FACTS - 1; from >= start; from--) {
            facts[from + FACTS] = facts[from];
        }
        for (int i = 0; i < FACTS; i++) {
            facts[start + i] = 0;
        }
        facts[start + FACT_KEY_IS_NULL] = keyIsNull ? 1 : 0;
        facts[start + FACT_KEY] = key;
        groupCount++;
    }

    private void addValue(int group, long value) {
        int start = group * FACTS;
        boolean isFirst = facts[start + FACT_VALUES] == 0;
        facts[start + FACT_VALUES]++;
        facts[start + FACT_SUM] += value;
        if (isFirst || value < facts[start + FACT_LEAST]) {
            facts[start + FACT_LEAST] = value;
        }
        if (isFirst || value > facts[start + FACT_GREATEST]) {
            facts[start + FACT_GREATEST] = value;
        }
    }
}
