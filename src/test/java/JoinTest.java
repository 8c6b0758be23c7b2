/** Promise 7 (join) and what a join's outputs are. */
public final class JoinTest {
    private static final int L = Check.LOWEST;
    private static final int H = Check.HIGHEST;
    private static final long NONE = Check.NONE;

    public static void main(String[] args) {
        whichJoinsAreSet();
        setJoinStartsAnew();
        bothSides();
        latestOfEachSide();
        sidesOfSixteen();
        eventOfBothSides();
        firstBeforeSecond();
        sums();
        seesFromWhenItIsSet();
        eachNAndM();
        noOutputIfThereAreNone();
        bothSidesOfEachSize();
        sumsWrap();
        sidesAreNotOld();
        Check.finish();
    }

    private static EventDesk join(int n, int m, int... types) {
        EventDesk x = new EventDesk();
        Check.typesAre(x, types);
        Check.due("join", x.join(3, n, m), true);
        return x;
    }

    private static void isSet(boolean want, int slot, int n, int m, int count) {
        EventDesk x = new EventDesk();
        for (int i = 0; i < count; i++) {
            Check.always(x);
        }
        String what = "join(" + slot + ", " + n + ", " + m + ") of " + count;
        Check.due(what, x.join(slot, n, m), want);
        Check.due(what + ": drop", x.drop(), want ? 0 : count);
        Check.due(what + ": given", x.given(slot, 0), want ? 0 : -1);
    }

    /** "false if slot is not 0..5, there are not just 2 conditions, or n or m is not 1..16". */
    private static void whichJoinsAreSet() {
        for (int slot = 0; slot <= 5; slot++) {
            isSet(true, slot, 1, 1, 2);
        }
        isSet(true, 0, 16, 1, 2);
        isSet(true, 0, 1, 16, 2);
        for (int wrong : new int[] {-1, 17, 100, L, H}) {
            isSet(false, wrong, 1, 1, 2);
            isSet(false, 0, wrong, 1, 2);
            isSet(false, 0, 1, wrong, 2);
        }
        isSet(false, 6, 1, 1, 2);
        isSet(false, 0, 0, 1, 2);
        isSet(false, 0, 1, 0, 2);
        isSet(false, 0, 1, 1, 0);
        isSet(false, 0, 1, 1, 1);
        isSet(false, 0, 1, 1, 3);
    }

    /** "Likewise": whatever was there, nothing seen. */
    private static void setJoinStartsAnew() {
        EventDesk x = join(2, 2, 0, 1);
        x.giving(3, 5, 2, 2);
        x.send(0, 0, 9);
        x.send(1, 0, 7);
        Check.due("counted", x.given(3, 1), 1);
        Check.typesAre(x, 0, 1);
        Check.due("wrong join", x.join(3, 2, 0), false);
        Check.due("counted stays", x.given(3, 1), 1);
        Check.due("join over a join", x.join(3, 2, 2), true);
        Check.due("counted", x.given(3, 1), 0);
        Check.outputs(x, 3, "anew", new int[][] {{0, 1, 0, 3}, {0, 0, 0, 4}, {0, 1, 0, 0}}, NONE, 3, 4);
        Check.due("no route", x.state(0), 5);
    }

    /** "of all in the right with the same a; for each that meets only the second, of those in the left". */
    private static void bothSides() {
        EventDesk x = join(5, 5, 0, 1);
        Check.outputs(x, 3, "left and right",
                new int[][] {{0, 0, 1, 1}, {3, 0, 2, 2}, {0, 1, 3, 4}, {0, 1, 1, 8}, {100, 0, 1, 16}, {0, 1, 1, 32},
                    {0, 2, 1, 64}, {0, 0, 1, 128}, {0, 0, 3, 0}},
                NONE, NONE, NONE, 1, 8, 17, NONE, 40, 4);
    }

    /** "the LEFT are the latest n events that met the first, the RIGHT the latest m that met the second". */
    private static void latestOfEachSide() {
        // The sides hold events of any a, so one with another a takes a place too.
        EventDesk x = join(2, 1, 0, 1);
        Check.outputs(x, 3, "left of 2, right of 1",
                new int[][] {{0, 0, 1, 1}, {0, 0, 1, 2}, {0, 1, 1, 100}, {0, 0, 2, 4}, {0, 1, 1, 200}, {0, 0, 2, 8},
                    {0, 1, 1, 300}, {0, 0, 1, 16}, {0, 1, 2, 400}, {0, 0, 1, 32}},
                NONE, NONE, 3, NONE, 2, NONE, NONE, 300, 8, NONE);
        x = join(1, 3, 0, 1);
        Check.outputs(x, 3, "left of 1, right of 3",
                new int[][] {{0, 1, 1, 1}, {0, 1, 1, 2}, {0, 1, 1, 4}, {0, 1, 1, 8}, {0, 0, 1, 16}, {0, 0, 1, 32},
                    {0, 1, 1, 64}, {0, 0, 1, 0}},
                NONE, NONE, NONE, NONE, 14, 14, 32, 76);
    }

    /** The greatest n and m. */
    private static void sidesOfSixteen() {
        EventDesk x = join(16, 16, 0, 1);
        for (int i = 0; i < 20; i++) {
            x.send(0, 0, 1);
        }
        x.send(1, 0, 0);
        Check.due("sixteen on the left", x.output(3, 0), 16);
        for (int i = 0; i < 20; i++) {
            x.send(1, 0, 3);
        }
        x.send(0, 0, 0);
        Check.due("sixteen on the right", x.output(3, 0), 48);
    }

    /** "An event that meets both is put into both before; with itself it makes no pair". */
    private static void eventOfBothSides() {
        EventDesk x = join(3, 3, 4, 4);
        Check.outputs(x, 3, "both sides",
                new int[][] {{0, 0, 1, 1}, {0, 0, 1, 2}, {0, 0, 1, 4}, {0, 0, 1, 8}, {0, 0, 2, 16}, {0, 0, 1, 32}},
                NONE, 1, 3, 6, NONE, 8);
        x = join(5, 1, 4, 4);
        Check.outputs(x, 3, "right of 1 is the event itself",
                new int[][] {{0, 0, 1, 1}, {0, 0, 1, 2}}, NONE, NONE);
        x = join(1, 5, 4, 4);
        Check.outputs(x, 3, "left of 1", new int[][] {{0, 0, 1, 1}, {0, 0, 1, 2}, {0, 0, 1, 4}}, NONE, 1, 3);
        // It takes a place on the right, so that another one has to leave it.
        x = join(3, 2, 0, 4);
        Check.outputs(x, 3, "into the right before",
                new int[][] {{0, 1, 1, 1}, {0, 1, 1, 2}, {0, 0, 1, 4}, {0, 1, 1, 8}, {0, 0, 1, 16}},
                NONE, NONE, 2, 4, 8);
    }

    /** "for each that meets only the second". */
    private static void firstBeforeSecond() {
        // One that meets both has its output of the right alone, even if there is none.
        EventDesk x = join(5, 5, 4, 1);
        Check.outputs(x, 3, "first before second",
                new int[][] {{0, 0, 1, 1}, {0, 0, 1, 2}, {0, 1, 1, 4}, {0, 0, 1, 8}, {0, 1, 1, 16}},
                NONE, NONE, NONE, 4, 4);
    }

    /** "the sum (wrapping)"; a sum of 0 is an output. */
    private static void sums() {
        EventDesk x = join(5, 5, 0, 1);
        Check.outputs(x, 3, "sums",
                new int[][] {{0, 0, 1, H}, {0, 0, 1, 2}, {0, 1, 1, 5}, {0, 0, 2, 3}, {0, 0, 2, -3}, {0, 1, 2, 0},
                    {0, 0, 1, 0}},
                NONE, NONE, L + 1, NONE, NONE, 0, 5);
        Check.due("a sum of 0 counts", x.given(3, 1), 3);
    }

    /** "A question sees the events that happen from when it is set on". */
    private static void seesFromWhenItIsSet() {
        EventDesk x = join(5, 5, 0, 1);
        x.send(0, 1, 1);
        x.send(1, 1, 2);
        Check.typesAre(x, 0, 1);
        x.join(3, 5, 5);
        Check.outputs(x, 3, "set later", new int[][] {{0, 0, 1, 4}, {0, 1, 1, 8}, {0, 0, 1, 0}}, NONE, 4, 8);
    }

    /** "the latest n events that met the first .. the latest m that met the second": each from 1 to 16. */
    private static void eachNAndM() {
        for (int n = 1; n <= 16; n++) {
            int m = 17 - n;
            EventDesk x = join(n, m, 0, 1);
            for (int i = 0; i < 17; i++) {
                Check.due("left, nothing on the right", x.send(0, 0, 1), 0);
            }
            Check.due("send", x.send(1, 0, 100), 1);
            Check.due("left of " + n, x.output(3, 0), n);
            for (int i = 0; i < 17; i++) {
                x.send(1, 0, 100);
            }
            Check.due("left is still of " + n, x.output(3, 0), n);
            x.send(0, 0, 1);
            Check.due("right of " + m, x.output(3, 0), 100 * m);
        }
    }

    /** "no output if there are none": with the same a, on the other side; and nothing counts then. */
    private static void noOutputIfThereAreNone() {
        EventDesk x = join(2, 2, 0, 1);
        x.giving(3, L, 1, 2);
        Check.outputs(x, 3, "none",
                new int[][] {{0, 0, 1, 5}, {0, 1, 2, 6}, {0, 0, 3, 7}, {0, 1, L, 8}, {0, 0, H, 9}, {0, 2, 1, 10}, {0, 3, 2, 11}},
                NONE, NONE, NONE, NONE, NONE, NONE, NONE);
        Check.due("counted", x.given(3, 1), 0);
        Check.due("nothing was routed", x.state(0), 7);
        // The first on the left has left it by now.
        Check.outputs(x, 3, "none any more", new int[][] {{0, 1, 1, 5}}, NONE);
        Check.outputs(x, 3, "still there", new int[][] {{0, 1, 3, 5}}, 7);
    }

    /** "(An event that meets both is put into both before; with itself it makes no pair.)" */
    private static void bothSidesOfEachSize() {
        for (int n = 1; n <= 4; n++) {
            for (int m = 1; m <= 4; m++) {
                EventDesk x = join(n, m, 4, 4);
                for (int i = 0; i < 8; i++) {
                    int pairs = Math.min(i, m - 1);
                    Check.due("both, " + n + " and " + m + ": send " + i, x.send(0, 5, 1), pairs == 0 ? 0 : 1);
                    Check.due("both, " + n + " and " + m + ": sum", x.output(3, 0), pairs);
                }
            }
        }
        // Put into the left as well: those that meet only the second find it there.
        EventDesk x = new EventDesk();
        Check.condition(x, 3, 0, 2, 8);
        Check.condition(x, 3, 12, 12);
        Check.due("types 0 and 1, types 1 to 3", x.join(3, 2, 2), true);
        Check.outputs(x, 3, "0 left, 1 both, 2 and 3 right",
                new int[][] {{0, 1, 9, 1}, {0, 3, 9, 2}, {0, 0, 9, 4}, {0, 2, 9, 8}, {0, 1, 9, 16}, {0, 3, 9, 32}, {0, 1, 9, 64}},
                NONE, 1, 3, 5, 8, 20, 32);
    }

    /** "the sum (wrapping)": beyond both ends. */
    private static void sumsWrap() {
        EventDesk x = join(3, 3, 0, 1);
        Check.outputs(x, 3, "wrapping",
                new int[][] {{0, 0, 1, H}, {0, 0, 1, H}, {0, 1, 1, 0}, {0, 0, 1, 3}, {0, 1, 1, 0}, {0, 0, 1, L}, {0, 1, 1, 0},
                    {0, 0, 1, L}, {0, 1, 1, 0}, {0, 0, 1, L + 1}, {0, 1, 1, 0}},
                NONE, NONE, -2, 0, 1, 0, 2, 0, 3, 0, L + 1);
    }

    /** The clock does not matter to a join, and neither do the events that meet neither condition. */
    private static void sidesAreNotOld() {
        EventDesk x = join(1, 1, 0, 1);
        x.send(0, 1, 5);
        for (int i = 0; i < 40; i++) {
            x.advance(100);
            Check.due("neither", x.send(2 + i % 2, 1, 9), 0);
        }
        Check.due("still on the left", x.send(1, 1, 0), 1);
        Check.due("output", x.output(3, 0), 5);
    }
}
