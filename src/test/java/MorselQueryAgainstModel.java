import java.util.ArrayList;
import java.util.List;
import java.util.TreeMap;

// Long runs of calls on the class and on a plain model of the document, which holds NULL and unknown as null and reads
// expressions by recursion. The calls come from a fixed series of numbers, so that each run of the test makes the same ones.
public final class MorselQueryAgainstModel {
    private static final int NULL = Integer.MIN_VALUE;
    private static final int CONST = 99;
    private static final int RUNS = 8000;
    private static final int CALLS = 512;

    private static long state = 20261115L;
    private static int wrong = 0;
    // How many cells of twenty have a small number: many for full joins, few for many groups.
    private static int narrow = 0;
    private static final int[] fullRuns = new int[3];
    private static final int[] groupedRuns = new int[3];

    public static void main(String[] args) {
        for (int run = 0; run < RUNS && wrong == 0; run++) {
            oneRun(run);
        }
        for (int mode = 0; mode < 3; mode++) {
            if (fullRuns[mode] < 100 || groupedRuns[mode] < 100) {
                wrong++;
                System.out.println("mode " + mode + " was hardly tried: " + fullRuns[mode] + " FULL, " + groupedRuns[mode] + " with groups");
            }
        }
        System.out.println("FULL: " + java.util.Arrays.toString(fullRuns) + ", groups: " + java.util.Arrays.toString(groupedRuns));
        System.out.println(wrong == 0 ? RUNS + " runs answered like the model" : "not like the model");
        if (wrong != 0) {
            System.exit(1);
        }
    }

    // ---- the calls

    private static int below(int bound) {
        state = state * 6364136223846793005L + 1442695040888963407L;
        return (int) ((state >>> 33) % bound);
    }

    private static int someInt() {
        int kind = below(20);
        if (kind < 3) {
            return NULL;
        }
        if (kind == 3) {
            int[] far = {Integer.MAX_VALUE, -Integer.MAX_VALUE, 65536, -65536, 1 << 30};
            return far[below(far.length)];
        }
        return kind < narrow ? below(4) : below(31) - 15;
    }

    private static int nearly(int from, int to) {
        return below(12) == 0 ? from - 2 + below(to - from + 5) : from + below(to - from + 1);
    }

    private static List<String> calls = new ArrayList<>();

    private static void same(int run, String call, long got, long want) {
        calls.add(call + " -> " + got);
        if (got != want && wrong == 0) {
            wrong++;
            System.out.println("run " + run + ", the last call is wrong, due is " + want);
            for (String line : calls) {
                System.out.println("  " + line);
            }
        }
    }

    private static void oneRun(int run) {
        calls.clear();
        narrow = run % 20;
        MorselQuery x = new MorselQuery();
        Model m = new Model();
        int called = 0;
        int filling = below(40);
        while (called < CALLS && wrong == 0) {
            int choice = called < filling ? 0 : below(100);
            if (choice < 20) {
                int t = nearly(0, 1), a = someInt(), b = someInt(), c = someInt();
                same(run, "insert(" + t + ", " + a + ", " + b + ", " + c + ")", x.insert(t, a, b, c), m.insert(t, a, b, c));
                called++;
            } else if (choice < 24) {
                int t = nearly(0, 1), p = nearly(0, 15);
                same(run, "remove(" + t + ", " + p + ")", x.remove(t, p), m.remove(t, p));
                called++;
            } else if (choice < 36) {
                int c = nearly(0, 5), p = nearly(0, 15), v = someInt();
                same(run, "set(" + c + ", " + p + ", " + v + ")", x.set(c, p, v), m.set(c, p, v));
                called++;
            } else if (choice < 42) {
                int c = nearly(0, 5), p = nearly(0, 15);
                same(run, "cell(" + c + ", " + p + ")", x.cell(c, p), m.cell(c, p));
                called++;
            } else if (choice < 44) {
                int t = nearly(0, 1);
                same(run, "rows(" + t + ")", x.rows(t), m.rows(t));
                called++;
            } else if (choice < 68) {
                called += expression(run, x, m, CALLS - called);
            } else if (choice < 90) {
                int mode = nearly(0, 2), l = nearly(0, 2), r = nearly(3, 5);
                int want = m.run(mode, l, r);
                same(run, "run(" + mode + ", " + l + ", " + r + ")", x.run(mode, l, r), want);
                called++;
                if (want == -2) {
                    fullRuns[mode]++;
                } else if (want > 1) {
                    groupedRuns[mode]++;
                }
                called += readGroups(run, x, m, CALLS - called);
            } else {
                int n = nearly(0, 12), w = nearly(0, 6);
                same(run, "group(" + n + ", " + w + ")", x.group(n, w), m.group(n, w));
                called++;
            }
        }
    }

    private static int readGroups(int run, MorselQuery x, Model m, int left) {
        int called = 0;
        if (left > 0) {
            same(run, "passed()", x.passed(), m.passed);
            called++;
        }
        int start = below(13);
        for (int i = 0; i < 2; i++) {
            for (int w = 0; w < 7 && called < left; w++) {
                int n = m.groups.isEmpty() ? start + i : (start + i) % (m.groups.size() + 1);
                same(run, "group(" + n + ", " + w + ")", x.group(n, w), m.group(n, w));
                called++;
            }
        }
        return called;
    }

    private static int expression(int run, MorselQuery x, Model m, int left) {
        int what = nearly(0, 2);
        List<Integer> list = new ArrayList<>();
        // Without these filters few pairs pass, and there are seldom many groups.
        boolean mostlyTrue = what == 0 && below(2) == 0;
        if (mostlyTrue) {
            list.addAll(List.of(31, 23, below(6), CONST, below(4)));
        }
        // Each constant takes two places here, so some of these lists are too long for twenty tokens and some just fit.
        boolean truth = below(15) == 0 ? below(2) == 0 : what == 0;
        if (what == 2 && below(3) == 0) {
            // A key of two columns: many groups.
            list.addAll(List.of(10, below(3), 12, CONST, 1 + below(40), below(6)));
        } else {
            boolean shortOne = mostlyTrue || what == 2 && below(2) == 0;
            write(list, truth || mostlyTrue, 1 + below(shortOne ? 4 : 12));
        }
        if (below(8) == 0) {
            spoil(list);
        }
        int called = 0;
        int i = 0;
        while (i < list.size() && called < left) {
            if (list.get(i) == CONST) {
                int v = list.get(i + 1);
                same(run, "constant(" + v + ")", x.constant(v), m.constant(v));
                i += 2;
            } else {
                int[] three = {-1, -1, -1};
                for (int k = 0; k < 3; k++) {
                    if (i < list.size() && list.get(i) != CONST && below(5) > 0) {
                        three[k] = list.get(i);
                        i++;
                    }
                }
                same(run, "put(" + three[0] + ", " + three[1] + ", " + three[2] + ")", x.put(three[0], three[1], three[2]), m.put(three));
            }
            called++;
        }
        if (called < left && below(20) > 0) {
            same(run, "use(" + what + ")", x.use(what) ? 1 : 0, m.use(what) ? 1 : 0);
            called++;
        }
        return called;
    }

    private static void same(int run, String call, boolean got, boolean want) {
        same(run, call, got ? 1 : 0, want ? 1 : 0);
    }

    private static void write(List<Integer> list, boolean truth, int budget) {
        if (truth) {
            int kind = budget < 4 ? below(5) : below(9);
            if (kind < 4) {
                list.add(20 + kind);
                write(list, false, budget / 2);
                write(list, false, budget / 2);
            } else if (kind == 4) {
                list.add(33);
                write(list, false, budget - 1);
            } else if (kind == 5) {
                list.add(32);
                write(list, true, budget - 1);
            } else {
                list.add(30 + kind % 2);
                write(list, true, budget / 2);
                write(list, true, budget / 2);
            }
        } else if (budget < 2 || below(3) == 0) {
            if (below(4) == 0) {
                list.add(CONST);
                list.add(someInt());
            } else {
                list.add(below(6));
            }
        } else {
            int token = 10 + below(8);
            if (token == 17) {
                list.add(34);
                write(list, true, budget / 3);
                write(list, false, budget / 3);
                write(list, false, budget / 3);
            } else {
                list.add(token);
                write(list, false, budget / 2);
                if (token != 15) {
                    write(list, false, budget / 2);
                }
            }
        }
    }

    private static void spoil(List<Integer> list) {
        int[] others = {0, 5, 6, 9, 10, 15, 16, 17, 19, 20, 24, 29, 30, 32, 33, 34, 35, 40, -2};
        int at = below(list.size());
        boolean aConstant = list.get(at) == CONST || at > 0 && list.get(at - 1) == CONST;
        if (aConstant) {
            list.add(others[below(others.length)]);
        } else if (below(3) == 0) {
            list.remove(at);
        } else {
            list.set(at, others[below(others.length)]);
        }
    }

    // ---- the model

    private static final class Group {
        Long key;
        long pairs, values, sum, least, greatest;
    }

    private static final class Model {
        final List<List<int[]>> tables = List.of(new ArrayList<>(), new ArrayList<>());
        List<int[]> pending = new ArrayList<>();
        final List<List<int[]>> query = new ArrayList<>();
        List<Group> groups = new ArrayList<>();
        int passed = 0;

        Model() {
            int[] zero = {CONST, 0};
            query.add(List.of(new int[] {20, 0}, zero, zero));
            query.add(List.of(zero));
            query.add(List.of(zero));
        }

        boolean noTable(int t) {
            return t != 0 && t != 1;
        }

        int insert(int t, int a, int b, int c) {
            if (noTable(t)) {
                return -1;
            }
            if (tables.get(t).size() == 16) {
                return -2;
            }
            tables.get(t).add(new int[] {a, b, c});
            return tables.get(t).size();
        }

        int remove(int t, int p) {
            if (noTable(t) || p < 0 || p >= tables.get(t).size()) {
                return -1;
            }
            tables.get(t).remove(p);
            return tables.get(t).size();
        }

        int[] row(int column, int p) {
            if (column < 0 || column > 5) {
                return null;
            }
            List<int[]> table = tables.get(column < 3 ? 0 : 1);
            return p < 0 || p >= table.size() ? null : table.get(p);
        }

        int set(int column, int p, int v) {
            int[] row = row(column, p);
            if (row == null) {
                return -1;
            }
            row[column % 3] = v;
            return rows(column < 3 ? 0 : 1);
        }

        int cell(int column, int p) {
            int[] row = row(column, p);
            return row == null ? 0 : row[column % 3];
        }

        int rows(int t) {
            return noTable(t) ? -1 : tables.get(t).size();
        }

        boolean put(int[] three) {
            List<int[]> longer = new ArrayList<>(pending);
            for (int token : three) {
                if (token == -1) {
                    continue;
                }
                boolean known = List.of(0, 1, 2, 3, 4, 5, 10, 11, 12, 13, 14, 15, 16, 20, 21, 22, 23, 30, 31, 32, 33, 34).contains(token);
                if (!known) {
                    return false;
                }
                longer.add(new int[] {token, 0});
            }
            if (longer.size() > 20) {
                return false;
            }
            pending = longer;
            return true;
        }

        boolean constant(int v) {
            if (pending.size() == 20) {
                return false;
            }
            pending.add(new int[] {CONST, v});
            return true;
        }

        boolean use(int what) {
            List<int[]> taken = pending;
            pending = new ArrayList<>();
            if (what < 0 || what > 2 || end(taken, 0, what == 0) != taken.size()) {
                return false;
            }
            query.set(what, taken);
            return true;
        }

        // Where the expression of this kind that starts here ends, or -1.
        int end(List<int[]> list, int at, boolean truth) {
            if (at < 0 || at >= list.size()) {
                return -1;
            }
            int token = list.get(at)[0];
            boolean isTruth = List.of(20, 21, 22, 23, 30, 31, 32, 33).contains(token);
            if (isTruth != truth) {
                return -1;
            }
            String kinds;
            switch (token) {
                case 0: case 1: case 2: case 3: case 4: case 5: case CONST: kinds = ""; break;
                case 15: case 33: kinds = "n"; break;
                case 32: kinds = "t"; break;
                case 30: case 31: kinds = "tt"; break;
                case 34: kinds = "tnn"; break;
                default: kinds = "nn"; break;
            }
            int next = at + 1;
            for (char kind : kinds.toCharArray()) {
                next = end(list, next, kind == 't');
            }
            return next;
        }

        int at;

        Long number(List<int[]> list, int[] pair) {
            int[] token = list.get(at++);
            if (token[0] == CONST) {
                return token[1] == NULL ? null : Long.valueOf(token[1]);
            }
            if (token[0] < 6) {
                return pair[token[0]] == NULL ? null : Long.valueOf(pair[token[0]]);
            }
            if (token[0] == 34) {
                Boolean truth = truth(list, pair);
                Long first = number(list, pair);
                Long second = number(list, pair);
                return Boolean.TRUE.equals(truth) ? first : second;
            }
            Long a = number(list, pair);
            if (token[0] == 15) {
                return a == null ? null : Long.valueOf(-a);
            }
            Long b = number(list, pair);
            if (token[0] == 16) {
                return a == null ? b : a;
            }
            if (a == null || b == null) {
                return null;
            }
            switch (token[0]) {
                case 10: return a + b;
                case 11: return a - b;
                case 12: return a * b;
                case 13: return b == 0 ? null : Long.valueOf(a / b);
                default: return b == 0 ? null : Long.valueOf(a % b);
            }
        }

        Boolean truth(List<int[]> list, int[] pair) {
            int token = list.get(at++)[0];
            if (token == 32) {
                Boolean a = truth(list, pair);
                return a == null ? null : Boolean.valueOf(!a);
            }
            if (token == 33) {
                return number(list, pair) == null;
            }
            if (token == 30 || token == 31) {
                Boolean a = truth(list, pair);
                Boolean b = truth(list, pair);
                Boolean strong = token == 31;
                if (strong.equals(a) || strong.equals(b)) {
                    return strong;
                }
                return a == null || b == null ? null : Boolean.valueOf(!strong);
            }
            Long a = number(list, pair);
            Long b = number(list, pair);
            if (a == null || b == null) {
                return null;
            }
            int order = a.compareTo(b);
            switch (token) {
                case 20: return order == 0;
                case 21: return order < 0;
                case 22: return order <= 0;
                default: return order != 0;
            }
        }

        List<int[]> pairs(int mode, int l, int r) {
            List<int[]> pairs = new ArrayList<>();
            for (int[] a : tables.get(0)) {
                int before = pairs.size();
                for (int[] b : tables.get(1)) {
                    if (mode > 0 && a[l] != NULL && b[r - 3] != NULL && a[l] == b[r - 3]) {
                        pairs.add(new int[] {a[0], a[1], a[2], b[0], b[1], b[2]});
                    }
                }
                if (mode == 0 || mode == 2 && pairs.size() == before) {
                    pairs.add(new int[] {a[0], a[1], a[2], NULL, NULL, NULL});
                }
            }
            return pairs;
        }

        int run(int mode, int l, int r) {
            if (mode < 0 || mode > 2 || l < 0 || l > 2 || r < 3 || r > 5) {
                return -1;
            }
            passed = 0;
            Group ofNull = null;
            TreeMap<Long, Group> others = new TreeMap<>();
            for (int[] pair : pairs(mode, l, r)) {
                at = 0;
                if (!Boolean.TRUE.equals(truth(query.get(0), pair))) {
                    continue;
                }
                passed++;
                at = 0;
                Long value = number(query.get(1), pair);
                at = 0;
                Long key = number(query.get(2), pair);
                Group group = key == null ? ofNull : others.get(key);
                if (group == null) {
                    group = new Group();
                    group.key = key;
                }
                add(group, value);
                if (key == null) {
                    ofNull = group;
                } else {
                    others.put(key, group);
                }
            }
            groups = new ArrayList<>();
            if (ofNull != null) {
                groups.add(ofNull);
            }
            groups.addAll(others.values());
            if (groups.size() > 12) {
                groups.clear();
                return -2;
            }
            return groups.size();
        }

        void add(Group group, Long value) {
            group.pairs++;
            if (value == null) {
                return;
            }
            group.least = group.values == 0 ? value : Math.min(group.least, value);
            group.greatest = group.values == 0 ? value : Math.max(group.greatest, value);
            group.values++;
            group.sum += value;
        }

        long group(int n, int what) {
            if (n < 0 || n >= groups.size()) {
                return 0;
            }
            Group g = groups.get(n);
            switch (what) {
                case 0: return g.key == null ? 1 : 0;
                case 1: return g.key == null ? 0 : g.key;
                case 2: return g.pairs;
                case 3: return g.values;
                case 4: return g.sum;
                case 5: return g.least;
                case 6: return g.greatest;
                default: return 0;
            }
        }
    }
}
