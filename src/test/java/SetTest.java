/**
 * What window, pattern and join have in common (promises 5 to 7): "Sets a question of this sort in a slot,
 * whatever was there (LEAST -2147483648, RATE 1, no route, nothing seen), with the conditions of the list,
 * which is empty then".
 */
public final class SetTest {
    private static final int L = Check.LOWEST;
    private static final int H = Check.HIGHEST;
    private static final int WINDOW = 0;
    private static final int PATTERN = 1;
    private static final int JOIN = 2;
    private static final int NOTHING = 3;
    private static final int REMOVED = 4;

    public static void main(String[] args) {
        for (int slot = 0; slot <= 5; slot++) {
            for (int before = WINDOW; before <= REMOVED; before++) {
                for (int sort = WINDOW; sort <= JOIN; sort++) {
                    setsAnew(slot, before, sort);
                }
            }
        }
        leastIsTheLowestInt();
        otherSlotsStay();
        conditionsAreTheQuestionsOwn();
        nIsNotLookedAtForViewsZeroAndFour();
        Check.finish();
    }

    private static boolean set(EventDesk x, int sort, int slot) {
        switch (sort) {
            case WINDOW:
                Check.typeIs(x, 1);
                return x.window(slot, 0, 0, 1, false);
            case PATTERN:
                Check.typesAre(x, 0, 1);
                return x.pattern(slot, 100, 4, false, false);
            default:
                Check.typesAre(x, 0, 1);
                return x.join(slot, 4, 4);
        }
    }

    private static void setBefore(EventDesk x, int before, int slot) {
        if (before == NOTHING) {
            return;
        }
        int sort = before == REMOVED ? WINDOW : before;
        Check.due("set before", set(x, sort, slot), true);
        x.giving(slot, 0, 2, 3);
        for (int i = 1; i <= 5; i++) {
            x.send(0, 1, i);
            x.send(1, 1, i);
        }
        Check.due("something was given before", x.given(slot, 0) > 0, true);
        if (before == REMOVED) {
            Check.due("remove", x.remove(slot), true);
        }
    }

    private static void setsAnew(int slot, int before, int sort) {
        EventDesk x = new EventDesk();
        setBefore(x, before, slot);
        String what = "sort " + sort + " over " + before + " in slot " + slot;
        int givenBefore = x.state(3);
        int happened = x.state(0);
        Check.due(what, set(x, sort, slot), true);
        Check.due(what + ": the list is empty then", x.drop(), 0);
        Check.state(x, what, happened, x.state(1), 0, givenBefore);
        Check.due(what + ": given", x.given(slot, 0), 0);
        Check.due(what + ": counted", x.given(slot, 1), 0);
        for (int k = 0; k <= 7; k++) {
            Check.due(what + ": output " + k, x.output(slot, k), 0);
        }
        // Nothing seen: a 1 finds no 0 before it, and no other 1.
        Check.due(what + ": first 1", x.send(1, 1, -50), sort == WINDOW ? 1 : 0);
        Check.due(what + ": first 0", x.send(0, 1, -60), sort == JOIN ? 1 : 0);
        Check.due(what + ": second 1", x.send(1, 1, -70), 1);
        int[] want = {-120, 1, -60};
        Check.due(what + ": output", x.output(slot, 0), want[sort]);
        Check.due(what + ": RATE 1", x.given(slot, 0), x.given(slot, 1));
        Check.due(what + ": no route", x.state(0), happened + 3);
    }

    /** "LEAST -2147483648": the one output that does not count. */
    private static void leastIsTheLowestInt() {
        for (int before = WINDOW; before <= REMOVED; before++) {
            EventDesk x = new EventDesk();
            setBefore(x, before, 2);
            set(x, WINDOW, 2);
            Check.due("an output of the lowest int does not count", x.send(1, 0, L), 0);
            Check.due("counted", x.given(2, 1), 0);
            Check.due("the next int does", x.send(1, 0, 1), 1);
            Check.due("output", x.output(2, 0), L + 1);
            set(x, JOIN, 2);
            x.send(0, 5, L);
            Check.due("a join's lowest int does not count", x.send(1, 5, 0), 0);
            Check.due("counted", x.given(2, 1), 0);
            x.send(0, 5, 1);
            Check.due("the next int does", x.send(1, 5, 0), 1);
            Check.due("output", x.output(2, 0), L + 1);
        }
    }

    /** A question is set in its own slot alone. */
    private static void otherSlotsStay() {
        for (int slot = 0; slot <= 5; slot++) {
            EventDesk x = new EventDesk();
            for (int other = 0; other <= 5; other++) {
                Check.always(x);
                x.window(other, 0, 0, 1, false);
            }
            Check.due("six answers", x.send(0, 0, 3), 6);
            Check.due("set one anew", set(x, WINDOW, slot), true);
            Check.due("six answers", x.send(1, 0, 4), 6);
            for (int other = 0; other <= 5; other++) {
                Check.due("output " + other, x.output(other, 0), other == slot ? 4 : 7);
                Check.due("given " + other, x.given(other, 0), other == slot ? 1 : 2);
            }
        }
    }

    /** Later programs and lists don't reach into a question that stands. */
    private static void conditionsAreTheQuestionsOwn() {
        EventDesk x = new EventDesk();
        Check.typesAre(x, 0, 1, 2);
        x.pattern(0, 100, 4, false, false);
        Check.typesAre(x, 3, 3);
        x.join(1, 2, 2);
        Check.typeIs(x, 2);
        x.window(2, 0, 0, 0, false);
        Check.typesAre(x, 3, 3, 3);
        Check.terms(x, 0, 0);
        Check.sends(x, "0, 1, 2", new int[][] {{0, 0, 0}, {1, 0, 0}, {2, 0, 0}}, 0, 0, 2);
        Check.due("drop", x.drop(), 4);
        Check.sends(x, "3, 3, 2", new int[][] {{3, 0, 5}, {3, 0, 6}, {2, 0, 0}}, 0, 1, 2);
        Check.due("pattern", x.given(0, 0), 2);
        Check.due("join", x.output(1, 0), 5);
        Check.due("window", x.output(2, 0), 2);
    }

    /** "n .. not looked at for 0 and 4". */
    private static void nIsNotLookedAtForViewsZeroAndFour() {
        for (int n : new int[] {L, -1, 0, 1, 2, 16, 17, 100, 101, H}) {
            EventDesk x = new EventDesk();
            Check.always(x);
            Check.due("view 0, n " + n, x.window(0, 0, n, 1, false), true);
            Check.always(x);
            Check.due("view 4, n " + n, x.window(1, 4, n, 1, false), true);
            for (int i = 0; i < 20; i++) {
                Check.due("n " + n + ": send", x.send(0, i, 1), 2);
                x.advance(90);
            }
            Check.due("n " + n + ": all are in view 0", x.output(0, 0), 20);
            Check.due("n " + n + ": all are in view 4", x.output(1, 0), 20);
        }
    }
}
