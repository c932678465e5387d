// What several tests need: the count of wrong answers, and short ways to write and try an expression. A test extends it.
class Checks {
    static final int NULL = Integer.MIN_VALUE;
    static final int REFUSED = -1, FULL = -2;
    // The tests' own sign for a CONST in a list of tokens; the constant's int follows it.
    static final int CONST = 99;
    static final int[] ODD_INTS = {Integer.MIN_VALUE, -1000, -2, -1, 0, 1, 2, 3, 5, 6, 15, 16, 17, 1000, Integer.MAX_VALUE};

    static int wrong = 0;
    static int checks = 0;
    // What of the document is being tested.
    static String about = "";

    static void due(String what, long got, long want) {
        checks++;
        if (got != want) {
            wrong++;
            System.out.println(about + ": " + what + " answered " + got + ", due is " + want);
        }
    }

    static void due(String what, boolean got, boolean want) {
        due(what, got ? 1 : 0, want ? 1 : 0);
    }

    static void must(String what, boolean holds) {
        checks++;
        if (!holds) {
            wrong++;
            System.out.println(about + ": " + what);
        }
    }

    static void end() {
        System.out.println(checks + " checks, " + wrong + " wrong");
        if (wrong != 0) {
            System.exit(1);
        }
    }

    static boolean write(MorselQuery x, int... list) {
        boolean all = true;
        for (int i = 0; i < list.length; i++) {
            if (list[i] == CONST) {
                i++;
                all &= x.constant(list[i]);
            } else {
                all &= x.put(list[i], -1, -1);
            }
        }
        return all;
    }

    static boolean query(MorselQuery x, int what, int... list) {
        boolean written = write(x, list);
        return x.use(what) & written;
    }

    static MorselQuery withRow(int a, int b, int c) {
        MorselQuery x = new MorselQuery();
        x.insert(0, a, b, c);
        return x;
    }

    static void value(String what, long want, int... list) {
        MorselQuery x = withRow(7, -3, NULL);
        due(what + " is taken", query(x, 1, list), true);
        due(what + ": run", x.run(0, 0, 3), 1);
        due(what + ": not NULL", x.group(0, 3), 1);
        due(what, x.group(0, 4), want);
    }

    static void nullValue(String what, int... list) {
        MorselQuery x = withRow(7, -3, NULL);
        due(what + " is taken", query(x, 1, list), true);
        due(what + ": run", x.run(0, 0, 3), 1);
        due(what + ": pairs", x.group(0, 2), 1);
        due(what + ": NULL", x.group(0, 3), 0);
    }

    // 1 true, 0 false, 2 unknown: told apart by the filter and by the filter's "not".
    static int truth(int... list) {
        MorselQuery x = withRow(7, -3, NULL);
        boolean taken = query(x, 0, list);
        int plain = x.run(0, 0, 3);
        taken &= query(x, 0, join(32, list));
        int not = x.run(0, 0, 3);
        if (!taken || plain + not > 1) {
            return -1;
        }
        return plain == 1 ? 1 : not == 1 ? 0 : 2;
    }

    static int[] join(int head, int[]... parts) {
        int[] all = {head};
        for (int[] part : parts) {
            int[] longer = java.util.Arrays.copyOf(all, all.length + part.length);
            System.arraycopy(part, 0, longer, all.length, part.length);
            all = longer;
        }
        return all;
    }

    static void groupsAre(MorselQuery x, long[][] want) {
        for (int number = 0; number < want.length; number++) {
            for (int what = 0; what < 7; what++) {
                due("group(" + number + ", " + what + ")", x.group(number, what), want[number][what]);
            }
        }
    }
}
