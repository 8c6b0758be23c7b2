/** Promise 7 (join) and what a join's outputs are. */
public final class JoinTest {
    private static final int L = Check.LOWEST;
    private static final int H = Check.HIGHEST;
    private static final long NONE = Check.NONE;

    public static void main(String[] args) {
        whichJoinsAreSet();
        setJoinStartsAnew();
        bothSides();
        latestOfEachSide();
        sidesOfSixteen();
        eventOfBothSides();
        firstBeforeSecond();
        sums();
        seesFromWhenItIsSet();
        Check.finish();
    }

    private static EventDesk join(int n, int m, int... types) {
        EventDesk x = new EventDesk();
        Check.typesAre(x, types);
        Check.due("join", x.join(3, n, m), true);
        return x;
    }

    private static void isSet(boolean want, int slot, int n, int m, int count) {
        EventDesk x = new EventDesk();
        for (int i = 0; i < count; i++) {
            Check.always(x);
        }
        String what = "join(" + slot + ", " + n + ", " + m + ") of " + count;
        Check.due(what, x.join(slot, n, m), want);
        Check.due(what + ": drop", x.drop(), want ? 0 : count);
        Check.due(what + ": given", x.given(slot, 0), want ? 0 : -1);
    }

    private static void whichJoinsAreSet() {
        for (int slot = 0; slot <= 5; slot++) {
            isSet(true, slot, 1, 1, 2);
        }
        isSet(true, 0, 16, 1, 2);
        isSet(true, 0, 1, 16, 2);
        for (int wrong : new int[] {-1, 17, 100, L, H}) {
            isSet(false, wrong, 1, 1, 2);
            isSet(false, 0, wrong, 1, 2);
            isSet(false, 0, 1, wrong, 2);
        }
        isSet(false, 6, 1, 1, 2);
        isSet(false, 0, 0, 1, 2);
        isSet(false, 0, 1, 0, 2);
        isSet(false, 0, 1, 1, 0);
        isSet(false, 0, 1, 1, 1);
        isSet(false, 0, 1, 1, 3);
    }

    private static void setJoinStartsAnew() {
        EventDesk x = join(2, 2, 0, 1);
        x.giving(3, 5, 2, 2);
        x.send(0, 0, 9);
        x.send(1, 0, 7);
        Check.due("counted", x.given(3, 1), 1);
        Check.typesAre(x, 0, 1);
        Check.due("wrong join", x.join(3, 2, 0), false);
        Check.due("counted stays", x.given(3, 1), 1);
        Check.due("join over a join", x.join(3, 2, 2), true);
        Check.due("counted", x.given(3, 1), 0);
        Check.outputs(x, 3, "anew", new int[][] {{0, 1, 0, 3}, {0, 0, 0, 4}, {0, 1, 0, 0}}, NONE, 3, 4);
        Check.due("no route", x.state(0), 5);
    }

    private static void bothSides() {
        EventDesk x = join(5, 5, 0, 1);
        Check.outputs(x, 3, "left and right",
                new int[][] {{0, 0, 1, 1}, {3, 0, 2, 2}, {0, 1, 3, 4}, {0, 1, 1, 8}, {100, 0, 1, 16}, {0, 1, 1, 32},
                    {0, 2, 1, 64}, {0, 0, 1, 128}, {0, 0, 3, 0}},
                NONE, NONE, NONE, 1, 8, 17, NONE, 40, 4);
    }

    private static void latestOfEachSide() {
        // The sides hold events of any a, so one with another a takes a place too.
        EventDesk x = join(2, 1, 0, 1);
        Check.outputs(x, 3, "left of 2, right of 1",
                new int[][] {{0, 0, 1, 1}, {0, 0, 1, 2}, {0, 1, 1, 100}, {0, 0, 2, 4}, {0, 1, 1, 200}, {0, 0, 2, 8},
                    {0, 1, 1, 300}, {0, 0, 1, 16}, {0, 1, 2, 400}, {0, 0, 1, 32}},
                NONE, NONE, 3, NONE, 2, NONE, NONE, 300, 8, NONE);
        x = join(1, 3, 0, 1);
        Check.outputs(x, 3, "left of 1, right of 3",
                new int[][] {{0, 1, 1, 1}, {0, 1, 1, 2}, {0, 1, 1, 4}, {0, 1, 1, 8}, {0, 0, 1, 16}, {0, 0, 1, 32},
                    {0, 1, 1, 64}, {0, 0, 1, 0}},
                NONE, NONE, NONE, NONE, 14, 14, 32, 76);
    }

    private static void sidesOfSixteen() {
        EventDesk x = join(16, 16, 0, 1);
        for (int i = 0; i < 20; i++) {
            x.send(0, 0, 1);
        }
        x.send(1, 0, 0);
        Check.due("sixteen on the left", x.output(3, 0), 16);
        for (int i = 0; i < 20; i++) {
            x.send(1, 0, 3);
        }
        x.send(0, 0, 0);
        Check.due("sixteen on the right", x.output(3, 0), 48);
    }

    private static void eventOfBothSides() {
        EventDesk x = join(3, 3, 4, 4);
        Check.outputs(x, 3, "both sides",
                new int[][] {{0, 0, 1, 1}, {0, 0, 1, 2}, {0, 0, 1, 4}, {0, 0, 1, 8}, {0, 0, 2, 16}, {0, 0, 1, 32}},
                NONE, 1, 3, 6, NONE, 8);
        x = join(5, 1, 4, 4);
        Check.outputs(x, 3, "right of 1 is the event itself",
                new int[][] {{0, 0, 1, 1}, {0, 0, 1, 2}}, NONE, NONE);
        x = join(1, 5, 4, 4);
        Check.outputs(x, 3, "left of 1", new int[][] {{0, 0, 1, 1}, {0, 0, 1, 2}, {0, 0, 1, 4}}, NONE, 1, 3);
        // It takes a place on the right, so that another one has to leave it.
        x = join(3, 2, 0, 4);
        Check.outputs(x, 3, "into the right before",
                new int[][] {{0, 1, 1, 1}, {0, 1, 1, 2}, {0, 0, 1, 4}, {0, 1, 1, 8}, {0, 0, 1, 16}},
                NONE, NONE, 2, 4, 8);
    }

    private static void firstBeforeSecond() {
        // One that meets both has its output of the right alone, even if there is none.
        EventDesk x = join(5, 5, 4, 1);
        Check.outputs(x, 3, "first before second",
                new int[][] {{0, 0, 1, 1}, {0, 0, 1, 2}, {0, 1, 1, 4}, {0, 0, 1, 8}, {0, 1, 1, 16}},
                NONE, NONE, NONE, 4, 4);
    }

    private static void sums() {
        EventDesk x = join(5, 5, 0, 1);
        Check.outputs(x, 3, "sums",
                new int[][] {{0, 0, 1, H}, {0, 0, 1, 2}, {0, 1, 1, 5}, {0, 0, 2, 3}, {0, 0, 2, -3}, {0, 1, 2, 0},
                    {0, 0, 1, 0}},
                NONE, NONE, L + 1, NONE, NONE, 0, 5);
        Check.due("a sum of 0 counts", x.given(3, 1), 3);
    }

    private static void seesFromWhenItIsSet() {
        EventDesk x = join(5, 5, 0, 1);
        x.send(0, 1, 1);
        x.send(1, 1, 2);
        Check.typesAre(x, 0, 1);
        x.join(3, 5, 5);
        Check.outputs(x, 3, "set later", new int[][] {{0, 0, 1, 4}, {0, 1, 1, 8}, {0, 0, 1, 0}}, NONE, 4, 8);
    }
}
