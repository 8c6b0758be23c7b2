/** Promise 5 (window) and what a window's outputs are. */
public final class WindowTest {
    private static final int L = Check.LOWEST;
    private static final int H = Check.HIGHEST;
    private static final long NONE = Check.NONE;

    public static void main(String[] args) {
        whichWindowsAreSet();
        refusedWindowChangesNothing();
        setWindowStartsAnew();
        onlyMembersHaveOutputs();
        viewAll();
        viewLatest();
        viewYoung();
        viewBatch();
        viewLatestOfEach();
        viewSincePause();
        totals();
        totalsOfWideValues();
        grouped();
        seesFromWhenItIsSet();
        fullViews();
        eachNOfViewsOneAndThree();
        eachNOfViewsTwoAndFive();
        oldIsNotThePause();
        batchIsGoneThoughNotCounted();
        batchOfManyA();
        middleOfEachNumber();
        differentOnes();
        sumsWrap();
        firstMemberIsInTheView();
        groupedAtTheEnds();
        othersLeaveTheView();
        Check.finish();
    }

    private static EventDesk window(int view, int n, int total, boolean grouped, int... condition) {
        EventDesk x = new EventDesk();
        Check.condition(x, condition);
        Check.due("window", x.window(2, view, n, total, grouped), true);
        return x;
    }

    private static void isSet(boolean want, int slot, int view, int n, int total) {
        EventDesk x = new EventDesk();
        Check.always(x);
        String what = "window(" + slot + ", " + view + ", " + n + ", " + total + ")";
        Check.due(what, x.window(slot, view, n, total, true), want);
        Check.due(what + ": drop", x.drop(), want ? 0 : 1);
        Check.due(what + ": given", x.given(slot, 0), want ? 0 : -1);
    }

    /** "False .. if slot is not 0..5, there isn't just one condition, view is not 0..5, n not .., or total is not 0..5". */
    private static void whichWindowsAreSet() {
        for (int slot = 0; slot <= 5; slot++) {
            isSet(true, slot, 0, 1, 0);
        }
        for (int wrong : new int[] {-1, 6, 7, L, H}) {
            isSet(false, wrong, 0, 1, 0);
            isSet(false, 0, wrong, 1, 0);
            isSet(false, 0, 0, 1, wrong);
        }
        for (int total = 0; total <= 5; total++) {
            isSet(true, 0, 0, 1, total);
        }
        int[] most = {H, 16, 100, 16, H, 100};
        int[] least = {L, 1, 1, 1, L, 1};
        for (int view = 0; view <= 5; view++) {
            boolean looked = view != 0 && view != 4;
            isSet(true, 0, view, least[view], 0);
            isSet(true, 0, view, most[view], 0);
            isSet(!looked, 0, view, 0, 0);
            isSet(!looked, 0, view, -1, 0);
            isSet(!looked, 0, view, 101, 0);
            isSet(!looked, 0, view, L, 0);
            isSet(!looked, 0, view, H, 0);
            isSet(view != 1 && view != 3, 0, view, 17, 0);
        }
        for (int count = 0; count <= 3; count++) {
            EventDesk x = new EventDesk();
            for (int i = 0; i < count; i++) {
                Check.always(x);
            }
            Check.due("window of " + count, x.window(0, 0, 0, 0, false), count == 1);
            Check.due("window of " + count + ": drop", x.drop(), count == 1 ? 0 : count);
        }
    }

    /** "False, and nothing changes": the question that stands there goes on. */
    private static void refusedWindowChangesNothing() {
        EventDesk x = window(0, 0, 1, false, 0, 1);
        x.giving(2, 3, 2, 4);
        x.send(0, 0, 5);
        x.send(0, 0, 6);
        Check.always(x);
        Check.due("wrong view", x.window(2, 6, 1, 0, false), false);
        Check.due("wrong n", x.window(2, 1, 0, 0, false), false);
        Check.due("wrong total", x.window(2, 1, 1, 6, false), false);
        Check.due("given", x.given(2, 0), 1);
        Check.due("counted", x.given(2, 1), 2);
        Check.due("output", x.output(2, 0), 11);
        Check.sends(x, "goes on", new int[][] {{0, 0, 1}, {0, 0, 1}}, 0, 1);
        Check.due("sum goes on", x.output(2, 0), 13);
    }

    /** "whatever was there (LEAST -2147483648, RATE 1, no route, nothing seen)". */
    private static void setWindowStartsAnew() {
        EventDesk x = window(0, 0, 1, false, 0, 1);
        x.giving(2, 3, 2, 3);
        x.send(0, 0, 5);
        x.send(0, 0, 6);
        Check.always(x);
        Check.due("window over a window", x.window(2, 0, 0, 1, false), true);
        Check.due("nothing given", x.given(2, 0), 0);
        Check.due("nothing counted", x.given(2, 1), 0);
        Check.due("no output", x.output(2, 0), 0);
        Check.state(x, "events stay", 3, 0, 0, 1);
        // LEAST is the lowest int, RATE 1, and there is no route.
        Check.due("send", x.send(0, 0, L + 1), 1);
        Check.due("output", x.output(2, 0), L + 1);
        Check.due("send the lowest sum", x.send(0, 0, -1), 0);
        Check.due("the lowest int does not count", x.given(2, 1), 1);
        Check.state(x, "no route", 5, 0, 0, 2);
        Check.always(x);
        Check.always(x);
        Check.due("join over a window", x.join(2, 1, 1), true);
        Check.due("nothing given", x.given(2, 0), 0);
        Check.always(x);
        Check.due("window over a join", x.window(2, 0, 0, 0, false), true);
        Check.due("send", x.send(0, 0, 7), 1);
        Check.due("the first member", x.output(2, 0), 1);
    }

    /** "the events that met it are its members"; "For each member that happens". */
    private static void onlyMembersHaveOutputs() {
        EventDesk x = window(0, 0, 1, false, 3, 0, 1, 9);
        Check.outputs(x, 2, "members of type 1",
                new int[][] {{0, 0, 0, 5}, {0, 1, 0, 6}, {0, 2, 0, 7}, {0, 1, 0, 8}, {0, 3, 0, 9}},
                NONE, 6, NONE, 14, NONE);
    }

    /** "VIEW 0: all members". */
    private static void viewAll() {
        EventDesk x = window(0, -3, 0, false, 0, 1);
        for (int i = 1; i <= 64; i++) {
            Check.due("view all: send", x.send(i % 4, i, i), 1);
            Check.due("view all: output", x.output(2, 0), i);
            x.advance(100);
        }
    }

    /** "1: the latest n". */
    private static void viewLatest() {
        EventDesk x = window(1, 3, 1, false, 3, 0, 2, 8);
        Check.outputs(x, 2, "latest 3",
                new int[][] {{0, 0, 1, 1}, {0, 1, 2, 2}, {9, 2, 2, 1000}, {0, 0, 3, 4}, {0, 1, 1, 8}, {50, 0, 1, 16}},
                1, 3, NONE, 7, 14, 28);
        x = window(1, 1, 1, false, 0, 1);
        Check.outputs(x, 2, "latest 1", new int[][] {{0, 0, 1, 1}, {0, 1, 2, 2}, {0, 2, 2, 4}}, 1, 2, 4);
        x = window(1, 16, 0, false, 0, 1);
        for (int i = 1; i <= 20; i++) {
            x.send(0, 0, 0);
            Check.due("latest 16", x.output(2, 0), i < 16 ? i : 16);
        }
    }

    /** "2: those that are less than n old". */
    private static void viewYoung() {
        EventDesk x = window(2, 3, 1, false, 3, 0, 2, 8);
        Check.outputs(x, 2, "less than 3 old",
                new int[][] {{0, 0, 1, 1}, {2, 0, 1, 2}, {0, 0, 2, 4}, {1, 2, 1, 1000}, {0, 1, 1, 8}, {2, 0, 1, 16},
                    {3, 0, 1, 32}},
                1, 3, 7, NONE, 14, 24, 32);
        x = window(2, 1, 1, false, 0, 1);
        Check.outputs(x, 2, "of the same time",
                new int[][] {{0, 0, 1, 1}, {0, 0, 1, 2}, {1, 0, 1, 4}, {0, 0, 1, 8}}, 1, 3, 4, 12);
        x = window(2, 100, 1, false, 0, 1);
        Check.outputs(x, 2, "less than 100 old",
                new int[][] {{0, 0, 1, 1}, {99, 0, 1, 2}, {1, 0, 1, 4}, {98, 0, 1, 8}, {1, 0, 1, 16}},
                1, 3, 6, 14, 28);
    }

    /** "3: those since the last full batch of n (an output only for the n-th one, of these n; they are gone then)". */
    private static void viewBatch() {
        EventDesk x = window(3, 3, 1, false, 3, 0, 2, 8);
        Check.outputs(x, 2, "batches of 3",
                new int[][] {{0, 0, 1, 1}, {9, 0, 1, 2}, {0, 2, 2, 1000}, {1, 1, 1, 4}, {0, 3, 1, 1000}, {0, 1, 1, 8},
                    {2, 0, 1, 16}, {3, 0, 1, 32}, {0, 0, 0, 64}},
                NONE, NONE, NONE, 7, NONE, NONE, NONE, 56, NONE);
        x = window(3, 1, 1, false, 0, 1);
        Check.outputs(x, 2, "batches of 1", new int[][] {{0, 0, 1, 1}, {0, 0, 1, 2}}, 1, 2);
        x = window(3, 16, 0, false, 0, 1);
        for (int i = 1; i <= 40; i++) {
            Check.due("batches of 16", x.send(0, 0, 0), i % 16 == 0 ? 1 : 0);
        }
        Check.due("batches of 16", x.output(2, 0), 16);
        x = window(3, 3, 1, true, 0, 1);
        Check.outputs(x, 2, "batches of 3, grouped",
                new int[][] {{0, 0, 1, 1}, {0, 0, 2, 2}, {0, 0, 1, 4}, {0, 0, 1, 8}, {0, 0, 1, 16}, {0, 0, 2, 32}},
                NONE, NONE, 5, NONE, NONE, 32);
    }

    /** "4: of each value of a the latest member". */
    private static void viewLatestOfEach() {
        EventDesk x = window(4, 0, 1, false, 3, 0, 2, 8);
        Check.outputs(x, 2, "latest of each a",
                new int[][] {{0, 0, 1, 1}, {0, 0, 2, 2}, {0, 0, 1, 4}, {5, 2, 2, 1000}, {0, 1, L, 8}, {0, 0, 2, 16},
                    {9, 0, L, 32}, {0, 0, 1, 64}},
                1, 3, 6, NONE, 14, 28, 52, 112);
        x = window(4, 0, 0, true, 0, 1);
        Check.outputs(x, 2, "latest of each a, grouped",
                new int[][] {{0, 0, 1, 1}, {0, 0, 2, 2}, {0, 0, 1, 4}, {0, 0, 1, 4}}, 1, 1, 1, 1);
    }

    /** "5: .. (a member that comes n or more after the one before it begins anew)". */
    private static void viewSincePause() {
        EventDesk x = window(5, 3, 1, false, 3, 0, 2, 8);
        Check.outputs(x, 2, "since a pause of 3",
                new int[][] {{5, 0, 1, 1}, {2, 0, 1, 2}, {2, 0, 2, 4}, {2, 2, 1, 1000}, {0, 0, 1, 8}, {2, 3, 1, 1000},
                    {1, 0, 1, 16}, {0, 0, 1, 32}, {4, 0, 1, 64}, {2, 0, 1, 128}},
                1, 3, 7, NONE, 15, NONE, 16, 48, 64, 192);
        x = window(5, 1, 1, false, 0, 1);
        Check.outputs(x, 2, "since a pause of 1",
                new int[][] {{0, 0, 1, 1}, {0, 0, 1, 2}, {1, 0, 1, 4}, {0, 0, 1, 8}}, 1, 3, 4, 12);
        x = window(5, 100, 1, false, 0, 1);
        Check.outputs(x, 2, "since a pause of 100",
                new int[][] {{0, 0, 1, 1}, {99, 0, 1, 2}, {99, 0, 1, 4}, {100, 0, 1, 8}, {99, 0, 1, 16}},
                1, 3, 7, 8, 24);
        // Members with another a end a pause as well.
        x = window(5, 3, 1, true, 0, 1);
        Check.outputs(x, 2, "since a pause of 3, grouped",
                new int[][] {{0, 0, 1, 1}, {2, 0, 2, 2}, {2, 0, 1, 4}, {3, 0, 1, 8}}, 1, 2, 5, 8);
    }

    /** "0 their number; of their b: 1 the sum, 2 the least, 3 the greatest, 4 how many different ones, 5 the middle one". */
    private static void totals() {
        int[] b = {5, 3, 5, 9, 3, 1, 9};
        long[][] want = {
            {1, 2, 3, 4, 5, 6, 7},
            {5, 8, 13, 22, 25, 26, 35},
            {5, 3, 3, 3, 3, 1, 1},
            {5, 5, 5, 9, 9, 9, 9},
            {1, 2, 2, 3, 3, 4, 4},
            {5, 3, 5, 5, 5, 3, 5}};
        for (int total = 0; total <= 5; total++) {
            EventDesk x = window(0, 0, total, false, 0, 1);
            for (int i = 0; i < b.length; i++) {
                x.send(0, i, b[i]);
                Check.due("total " + total + " of " + (i + 1), x.output(2, 0), want[total][i]);
            }
        }
    }

    /** Each total where b is at the ends of the ints; a sum that is the lowest int does not count. */
    private static void totalsOfWideValues() {
        int[][] events = {{0, 0, 0, H}, {0, 0, 0, 1}, {0, 0, 0, L + 1}, {0, 0, 0, -1}};
        long[][] want = {
            {1, 2, 3, 4},
            {H, NONE, 1, 0},
            {H, 1, L + 1, L + 1},
            {H, H, H, H},
            {1, 2, 3, 4},
            {H, 1, 1, -1}};
        for (int total = 0; total <= 5; total++) {
            EventDesk x = window(0, 0, total, false, 0, 1);
            Check.outputs(x, 2, "wide values, total " + total, events, want[total]);
        }
    }

    /** "with the same a as this one if the question is GROUPED". */
    private static void grouped() {
        int[][] events = {{0, 0, 1, 5}, {0, 0, 2, 3}, {0, 0, 1, 1}, {0, 0, 1, 5}, {0, 0, 2, 4}, {0, 0, -1, 0}};
        long[][] want = {
            {1, 1, 2, 3, 2, 1},
            {5, 3, 6, 11, 7, 0},
            {5, 3, 1, 1, 3, 0},
            {5, 3, 5, 5, 4, 0},
            {1, 1, 2, 2, 2, 1},
            {5, 3, 1, 5, 3, 0}};
        for (int total = 0; total <= 5; total++) {
            EventDesk x = window(0, 0, total, true, 0, 1);
            Check.outputs(x, 2, "grouped, total " + total, events, want[total]);
        }
        // The view is of all members; only the total is over those with the same a.
        EventDesk x = window(1, 2, 1, true, 0, 1);
        Check.outputs(x, 2, "latest 2, grouped",
                new int[][] {{0, 0, 1, 1}, {0, 0, 2, 2}, {0, 0, 1, 4}, {0, 0, 1, 8}}, 1, 2, 4, 12);
        x = window(2, 3, 1, true, 0, 1);
        Check.outputs(x, 2, "less than 3 old, grouped",
                new int[][] {{0, 0, 1, 1}, {1, 0, 2, 2}, {1, 0, 1, 4}, {1, 0, 1, 8}}, 1, 2, 5, 12);
    }

    /** "A question sees the events that happen from when it is set on". */
    private static void seesFromWhenItIsSet() {
        for (int view = 0; view <= 5; view++) {
            EventDesk x = new EventDesk();
            Check.always(x);
            x.window(2, 0, 0, 0, false);
            x.send(0, 1, 100);
            x.send(0, 1, 200);
            Check.always(x);
            Check.due("window", x.window(2, view, 2, 1, false), true);
            Check.outputs(x, 2, "set later, view " + view, new int[][] {{0, 0, 2, 1}, {0, 0, 3, 2}},
                    view == 3 ? NONE : 1, 3);
        }
    }

    /** "At most 64 happen": a view that holds all of them, and each total over it. */
    private static void fullViews() {
        // b: 0, 37, 10, 47, .. all of 0..63 once, in some order; at the 64th the middle is number 31.
        long[] want = {64, 2016, 0, 63, 64, 31};
        for (int view : new int[] {0, 2, 4, 5}) {
            for (int total = 0; total <= 5; total++) {
                EventDesk x = window(view, 100, total, false, 0, 1);
                for (int i = 0; i < 64; i++) {
                    x.send(i % 4, i, i * 37 % 64);
                }
                Check.due("view " + view + ", total " + total + " of 64", x.output(2, 0), want[total]);
                Check.due("view " + view + ", total " + total + ": given", x.given(2, 0), 64);
            }
        }
    }

    /** "1: the latest n", "3: .. full batch of n": n from 1 to 16, and neither one more nor one less. */
    private static void eachNOfViewsOneAndThree() {
        for (int n = 1; n <= 16; n++) {
            EventDesk x = window(1, n, 1, false, 0, 1);
            EventDesk y = window(3, n, 1, false, 0, 1);
            for (int i = 1; i <= 40; i++) {
                int first = i < n ? 1 : i - n + 1;
                Check.due("latest " + n + ": send", x.send(0, i, i), 1);
                Check.due("latest " + n + ": sum", x.output(2, 0), (first + i) * (i - first + 1) / 2);
                Check.due("batch " + n + ": send", y.send(0, i, i), i % n == 0 ? 1 : 0);
                Check.due("batch " + n + ": number", y.given(2, 1), i / n);
                Check.due("batch " + n + ": sum", y.output(2, 0), i < n ? 0 : sumOfBatch(n, i / n));
            }
        }
    }

    private static int sumOfBatch(int n, int batch) {
        int last = n * batch;
        return (last - n + 1 + last) * n / 2;
    }

    /** "2: those that are less than n old", "5: .. n or more after the one before it": each n, from both sides. */
    private static void eachNOfViewsTwoAndFive() {
        for (int n = 1; n <= 100; n++) {
            for (int view : new int[] {2, 5}) {
                EventDesk x = window(view, n, 0, false, 0, 1);
                Check.outputs(x, 2, "view " + view + ", n " + n,
                        new int[][] {{0, 0, 1, 0}, {n - 1, 0, 1, 0}, {n, 0, 1, 0}, {n - 1, 0, 1, 0}},
                        1, 2, 1, 2);
            }
        }
    }

    /** View 2 looks at how old each is, view 5 at how long nothing came: many short steps, a long way. */
    private static void oldIsNotThePause() {
        int[][] events = {{0, 0, 1, 1}, {2, 0, 1, 2}, {2, 0, 1, 4}, {2, 0, 1, 8}, {2, 0, 1, 16}};
        Check.outputs(window(2, 3, 1, false, 0, 1), 2, "less than 3 old", events, 1, 3, 6, 12, 24);
        Check.outputs(window(5, 3, 1, false, 0, 1), 2, "no pause of 3", events, 1, 3, 7, 15, 31);
    }

    /** "(an output only for the n-th one, of these n; they are gone then)": also if the output does not count. */
    private static void batchIsGoneThoughNotCounted() {
        EventDesk x = window(3, 2, 1, false, 0, 1);
        x.giving(2, 10, 1, 4);
        Check.outputs(x, 2, "batches of 2 over 10",
                new int[][] {{0, 0, 0, 4}, {0, 0, 0, 5}, {0, 0, 0, 6}, {0, 0, 0, 7}, {0, 0, 0, 20}, {0, 0, 0, 1}},
                NONE, NONE, NONE, 13, NONE, 21);
        Check.due("counted", x.given(2, 1), 2);
        // Nor does a rate hold a batch back.
        x = window(3, 2, 1, false, 0, 1);
        x.giving(2, L, 2, 4);
        Check.outputs(x, 2, "each second batch of 2",
                new int[][] {{0, 0, 0, 1}, {0, 0, 0, 2}, {0, 0, 0, 4}, {0, 0, 0, 8}, {0, 0, 0, 16}, {0, 0, 0, 32}},
                NONE, NONE, NONE, 12, NONE, NONE);
        Check.due("counted", x.given(2, 1), 3);
    }

    /** Grouped, the total of a full batch is over those with the a of the one that fills it. */
    private static void batchOfManyA() {
        EventDesk x = window(3, 4, 0, true, 0, 1);
        Check.outputs(x, 2, "the n-th one's a",
                new int[][] {{0, 0, 1, 0}, {0, 0, 2, 0}, {0, 0, 3, 0}, {0, 0, 4, 0}, {0, 0, 4, 0}, {0, 0, 4, 0},
                    {0, 0, 3, 0}, {0, 0, 4, 0}},
                NONE, NONE, NONE, 1, NONE, NONE, NONE, 3);
    }

    /** "5 the middle one (of m in ascending order number (m - 1) / 2, from 0 on)": m from 1 to 8. */
    private static void middleOfEachNumber() {
        EventDesk x = window(0, 0, 5, false, 0, 1);
        Check.outputs(x, 2, "middle",
                new int[][] {{0, 0, 0, 10}, {0, 0, 0, L + 1}, {0, 0, 0, H}, {0, 0, 0, -10}, {0, 0, 0, 20}, {0, 0, 0, 20},
                    {0, 0, 0, 20}, {0, 0, 0, H}},
                10, L + 1, 10, -10, 10, 10, 20, 20);
    }

    /** "4 how many different ones" of their b: the same b with another a is not different. */
    private static void differentOnes() {
        EventDesk x = window(0, 0, 4, false, 0, 1);
        Check.outputs(x, 2, "different b",
                new int[][] {{0, 0, 1, 7}, {0, 0, 2, 7}, {0, 1, 3, 7}, {5, 0, 1, L}, {0, 0, 1, H}, {0, 0, 1, 7}, {0, 0, 1, 0}},
                1, 1, 1, 2, 3, 3, 4);
        x = window(1, 2, 4, false, 0, 1);
        Check.outputs(x, 2, "different b of the latest 2",
                new int[][] {{0, 0, 1, 7}, {0, 0, 2, 8}, {0, 1, 3, 8}, {0, 0, 1, 9}}, 1, 2, 1, 2);
    }

    /** "1 the sum (wrapping)": beyond both ends, in a view that loses members as well. */
    private static void sumsWrap() {
        EventDesk x = window(0, 0, 1, false, 0, 1);
        Check.outputs(x, 2, "all",
                new int[][] {{0, 0, 0, H}, {0, 0, 0, H}, {0, 0, 0, 3}, {0, 0, 0, L}, {0, 0, 0, L + 1}},
                H, -2, 1, L + 1, 2);
        x = window(1, 2, 1, false, 0, 1);
        Check.outputs(x, 2, "latest 2",
                new int[][] {{0, 0, 0, H}, {0, 0, 0, H}, {0, 0, 0, 3}, {0, 0, 0, -5}, {0, 0, 0, L}, {0, 0, 0, L}},
                H, -2, L + 2, -2, H - 4, 0);
    }

    /** "itself being in the view already": of a first member each total is its own. */
    private static void firstMemberIsInTheView() {
        long[] want = {1, -9, -9, -9, 1, -9};
        for (int view = 0; view <= 5; view++) {
            for (int total = 0; total <= 5; total++) {
                for (int grouped = 0; grouped <= 1; grouped++) {
                    EventDesk x = window(view, 1, total, grouped == 1, 0, 1);
                    Check.outputs(x, 2, "the first of view " + view + ", total " + total,
                            new int[][] {{7, 0, 3, -9}}, want[total]);
                }
            }
        }
    }

    /** "with the same a as this one if the question is GROUPED": with a at both ends. */
    private static void groupedAtTheEnds() {
        EventDesk x = window(0, 0, 1, true, 0, 1);
        Check.outputs(x, 2, "grouped",
                new int[][] {{0, 0, L, 1}, {0, 0, H, 2}, {0, 0, -1, 4}, {0, 0, 0, 8}, {0, 0, L, 16}, {0, 0, H, 32}, {0, 0, 0, 64}},
                1, 2, 4, 8, 17, 34, 72);
        x = window(4, 0, 1, false, 0, 1);
        Check.outputs(x, 2, "latest of each",
                new int[][] {{0, 0, L, 1}, {0, 0, H, 2}, {0, 0, -1, 4}, {0, 0, 0, 8}, {0, 0, L, 16}, {0, 0, H, 32}},
                1, 3, 7, 15, 30, 60);
    }

    /** An event that is no member leaves every view as it is, however long it comes after. */
    private static void othersLeaveTheView() {
        for (int view = 0; view <= 5; view++) {
            EventDesk x = window(view, 2, 1, false, 3, 0, 1, 9);
            Check.outputs(x, 2, "others, view " + view,
                    new int[][] {{0, 1, 5, 1}, {0, 0, 5, 100}, {1, 2, 5, 100}, {0, 3, 6, 100}, {0, 1, 6, 2}, {1, 0, 6, 100}},
                    view == 3 ? NONE : 1, NONE, NONE, NONE, 3, NONE);
        }
        // It ends no pause either.
        EventDesk x = window(5, 2, 1, false, 3, 0, 1, 9);
        Check.outputs(x, 2, "the pause goes on",
                new int[][] {{0, 1, 0, 1}, {1, 0, 0, 100}, {1, 1, 0, 2}, {1, 1, 0, 4}}, 1, NONE, 2, 6);
    }
}
