/** Long runs of mixed calls (always the same ones), each answered by the class and by the model. */
public final class RandomRunsTest {
    private static final int RUNS = 4000;
    private static final int CALLS = 512;
    private static final int[] EDGES = {
        Integer.MIN_VALUE, Integer.MIN_VALUE + 1, -1000, -2, -1, 0, 1, 2, 1000, Integer.MAX_VALUE - 1, Integer.MAX_VALUE};
    /** Conditions that many events meet, a value behind each 0. */
    private static final int[][] READY = {
        {0, 1}, {3, 0, 0, 9}, {3, 0, 1, 9}, {3, 0, 2, 9}, {3, 0, 2, 8}, {3}, {1, 0, 2, 13}, {2, 0, 3, 8}, {1, 2, 8},
        {4, 0, 2, 13}, {3, 0, 3, 9, 12}, {1, 2, 5, 0, 5, 8}, {2, 0, 0, 9, 12}, {3, 0, 3, 9, 1, 0, 2, 9, 11}};

    private long seed;
    private EventDesk x;
    private Model y;
    private int calls;
    private String where;

    public static void main(String[] args) {
        for (int run = 1; run <= RUNS; run++) {
            new RandomRunsTest(run).play();
        }
        Check.finish();
    }

    private RandomRunsTest(int run) {
        seed = run * 7919L;
        x = new EventDesk();
        y = new Model();
        calls = 0;
        where = "run " + run;
    }

    /** 0 to bound - 1. */
    private int pick(int bound) {
        seed = seed * 6364136223846793005L + 1442695040888963407L;
        return (int) ((seed >>> 33) % bound);
    }

    private boolean oneIn(int n) {
        return pick(n) == 0;
    }

    /** Mostly within low..high, now and then just beside it or far away. */
    private int around(int low, int high) {
        if (oneIn(30)) {
            return oneIn(2) ? low - 1 : high + 1;
        }
        if (oneIn(60)) {
            return EDGES[pick(EDGES.length)];
        }
        return low + pick(high - low + 1);
    }

    private int small() {
        return oneIn(12) ? EDGES[pick(EDGES.length)] : pick(7) - 2;
    }

    private void due(String call, long got, long want) {
        calls++;
        Check.due(where + ", call " + calls + ": " + call, got, want);
    }

    private void due(String call, boolean got, boolean want) {
        due(call, got ? 1L : 0L, want ? 1L : 0L);
    }

    private void play() {
        int slots = 1 + pick(6);
        for (int i = 0; i < slots; i++) {
            question();
        }
        while (calls < CALLS - 30) {
            int choice = pick(100);
            if (choice < 50) {
                send();
            } else if (choice < 65) {
                int d = oneIn(5) ? around(0, 100) : around(0, 4);
                due("advance(" + d + ")", x.advance(d), y.advance(d));
            } else if (choice < 72) {
                giving();
            } else if (choice < 77) {
                question();
            } else {
                rareCall(choice);
            }
        }
    }

    private void rareCall(int choice) {
        if (choice < 79) {
            int slot = around(0, 5);
            due("remove(" + slot + ")", x.remove(slot), y.remove(slot));
        } else if (choice < 82) {
            calls++;
            x.keep();
            y.keep();
        } else if (choice < 85) {
            due("restore()", x.restore(), y.restore());
        } else if (choice < 87) {
            due("clear()", x.clear(), y.clear());
        } else if (choice < 89) {
            randomTerms();
        } else if (choice < 90) {
            due("drop()", x.drop(), y.drop());
        } else {
            look();
        }
    }

    private void term(int op, int value) {
        due("term(" + op + ", " + value + ")", x.term(op, value), y.term(op, value));
    }

    private void randomTerms() {
        int count = pick(8);
        for (int i = 0; i < count; i++) {
            term(oneIn(2) ? around(0, 4) : around(0, 13), small());
        }
        due("condition()", x.condition(), y.condition());
    }

    private void readyCondition() {
        int[] row = READY[pick(READY.length)];
        for (int i = 0; i < row.length; i++) {
            term(row[i], row[i] == 0 ? row[i + 1] : small());
            if (row[i] == 0) {
                i++;
            }
        }
        due("condition()", x.condition(), y.condition());
    }

    private void question() {
        if (!oneIn(8)) {
            due("drop()", x.drop(), y.drop());
        }
        int sort = pick(3);
        int count = sort == 0 ? 1 : sort == 1 ? 2 + pick(2) : 2;
        if (oneIn(20)) {
            count = pick(4);
        }
        for (int i = 0; i < count; i++) {
            readyCondition();
        }
        int slot = around(0, 5);
        if (sort == 0) {
            window(slot);
        } else if (sort == 1) {
            pattern(slot);
        } else {
            int n = oneIn(3) ? around(1, 16) : around(1, 4);
            int m = oneIn(3) ? around(1, 16) : around(1, 4);
            due("join(" + slot + ", " + n + ", " + m + ")", x.join(slot, n, m), y.join(slot, n, m));
        }
        if (oneIn(2)) {
            giving();
        }
    }

    private void window(int slot) {
        int view = around(0, 5);
        int n = oneIn(4) ? around(1, 16) : oneIn(8) ? around(1, 100) : around(1, 5);
        int total = around(0, 5);
        boolean grouped = oneIn(2);
        due("window(" + slot + ", " + view + ", " + n + ", " + total + ", " + grouped + ")",
                x.window(slot, view, n, total, grouped), y.window(slot, view, n, total, grouped));
    }

    private void pattern(int slot) {
        int n = oneIn(4) ? around(1, 1000) : around(1, 8);
        int stop = oneIn(2) ? 4 : around(0, 4);
        boolean equal = oneIn(2);
        boolean once = oneIn(2);
        due("pattern(" + slot + ", " + n + ", " + stop + ", " + equal + ", " + once + ")",
                x.pattern(slot, n, stop, equal, once), y.pattern(slot, n, stop, equal, once));
    }

    private void giving() {
        int slot = around(0, 5);
        int least = oneIn(3) ? Integer.MIN_VALUE : small();
        int rate = oneIn(2) ? 1 : around(1, 8);
        int route = oneIn(2) ? 4 : around(0, 4);
        due("giving(" + slot + ", " + least + ", " + rate + ", " + route + ")",
                x.giving(slot, least, rate, route), y.giving(slot, least, rate, route));
    }

    private void send() {
        int type = around(0, 3);
        int a = oneIn(10) ? small() : pick(4);
        int b = small();
        due("send(" + type + ", " + a + ", " + b + ")", x.send(type, a, b), y.send(type, a, b));
        int slot = pick(6);
        due("output(" + slot + ", 0)", x.output(slot, 0), y.output(slot, 0));
        if (oneIn(2) && y.state(0) == 64) {
            due("clear()", x.clear(), y.clear());
        }
    }

    private void look() {
        int slot = around(0, 5);
        int what = around(0, 1);
        int k = around(0, 7);
        int which = around(0, 3);
        due("given(" + slot + ", " + what + ")", x.given(slot, what), y.given(slot, what));
        due("output(" + slot + ", " + k + ")", x.output(slot, k), y.output(slot, k));
        due("state(" + which + ")", x.state(which), y.state(which));
    }
}
