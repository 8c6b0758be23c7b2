/** Promise 6 (pattern) and what a pattern's outputs are. */
public final class PatternTest {
    private static final int L = Check.LOWEST;
    private static final int H = Check.HIGHEST;
    private static final long NONE = Check.NONE;

    public static void main(String[] args) {
        whichPatternsAreSet();
        setPatternStartsAnew();
        twoConditions();
        threeConditions();
        oneEventIsNoRow();
        sameTimeIsLaterToo();
        lessThanNAfterTheFirst();
        breaksOfTwo();
        breaksOfThree();
        equalA();
        once();
        onceOfThree();
        onceThoughNotCounted();
        seesFromWhenItIsSet();
        routedEventsMatch();
        manyMatches();
        eachBreakType();
        rowsOfTheBreakType();
        breakBeforeTheFirst();
        eachSideOfN();
        onceAfterRowsThatWereNone();
        allMatchesThatEndTogether();
        eachLaterThanTheOneBefore();
        equalOfThree();
        firstAndLastOfAll();
        onceOfRoutedEvents();
        Check.finish();
    }

    private static EventDesk pattern(int n, int stop, boolean equal, boolean once, int... types) {
        EventDesk x = new EventDesk();
        Check.typesAre(x, types);
        Check.due("pattern", x.pattern(4, n, stop, equal, once), true);
        return x;
    }

    private static void isSet(boolean want, int slot, int n, int stop, int count) {
        EventDesk x = new EventDesk();
        for (int i = 0; i < count; i++) {
            Check.always(x);
        }
        String what = "pattern(" + slot + ", " + n + ", " + stop + ") of " + count;
        Check.due(what, x.pattern(slot, n, stop, true, true), want);
        Check.due(what + ": drop", x.drop(), want ? 0 : count);
        Check.due(what + ": given", x.given(slot, 0), want ? 0 : -1);
    }

    /** "false if slot is not 0..5, there are not 2 or 3 conditions, n is not 1..1000, or stop is not 0..4". */
    private static void whichPatternsAreSet() {
        for (int i = 0; i <= 5; i++) {
            isSet(true, i, 1, 0, 2);
            isSet(i <= 4, 0, 1, i, 3);
        }
        for (int wrong : new int[] {-1, 6, L, H}) {
            isSet(false, wrong, 1, 0, 2);
            isSet(false, 0, 1, wrong, 2);
        }
        isSet(true, 0, 1000, 4, 2);
        isSet(false, 0, 1001, 4, 2);
        isSet(false, 0, 0, 4, 2);
        isSet(false, 0, -1, 4, 2);
        isSet(false, 0, L, 4, 2);
        isSet(false, 0, H, 4, 2);
        isSet(false, 0, 1, 4, 0);
        isSet(false, 0, 1, 4, 1);
        isSet(true, 0, 1, 4, 3);
    }

    /** "Likewise": whatever was there, nothing seen. */
    private static void setPatternStartsAnew() {
        EventDesk x = pattern(10, 4, false, false, 4, 4);
        x.giving(4, 1, 3, 2);
        x.send(0, 0, 0);
        x.send(0, 0, 0);
        x.send(0, 0, 0);
        Check.typesAre(x, 4, 4);
        Check.due("wrong pattern", x.pattern(4, 10, 5, false, false), false);
        Check.due("counted stays", x.given(4, 1), 1);
        Check.due("pattern over a pattern", x.pattern(4, 10, 4, false, false), true);
        Check.due("given", x.given(4, 0), 0);
        Check.due("counted", x.given(4, 1), 0);
        Check.outputs(x, 4, "anew", new int[][] {{0, 0, 0, 0}, {0, 0, 0, 0}}, NONE, 1);
        Check.due("no route", x.state(0), 5);
    }

    /** "a row of events .. that meet the conditions in this order". */
    private static void twoConditions() {
        EventDesk x = pattern(10, 4, false, false, 0, 1);
        Check.outputs(x, 4, "0 then 1",
                new int[][] {{0, 1, 0, 0}, {1, 0, 5, 0}, {1, 2, 0, 0}, {1, 1, 6, 0}, {1, 0, 0, 0}, {1, 1, 0, 0},
                    {0, 3, 0, 0}, {1, 1, 0, 0}},
                NONE, NONE, NONE, 1, NONE, 2, NONE, 2);
    }

    /** "a row of events .. that meet the conditions in this order": three of them. */
    private static void threeConditions() {
        EventDesk x = pattern(100, 4, false, false, 0, 1, 2);
        Check.outputs(x, 4, "0, 1, 2",
                new int[][] {{0, 0, 0, 0}, {1, 2, 0, 0}, {1, 1, 0, 0}, {1, 2, 0, 0}, {1, 0, 0, 0}, {1, 2, 0, 0},
                    {1, 1, 0, 0}, {1, 2, 0, 0}, {1, 1, 0, 0}, {1, 2, 0, 0}},
                NONE, NONE, NONE, 1, NONE, 1, NONE, 3, NONE, 5);
        x = pattern(100, 4, false, false, 0, 1, 0);
        Check.outputs(x, 4, "0, 1, 0",
                new int[][] {{0, 0, 0, 0}, {1, 0, 0, 0}, {1, 1, 0, 0}, {1, 1, 0, 0}, {1, 0, 0, 0}},
                NONE, NONE, NONE, NONE, 4);
    }

    /** "each later than the one before". */
    private static void oneEventIsNoRow() {
        EventDesk x = pattern(10, 4, false, false, 4, 4);
        Check.outputs(x, 4, "any two",
                new int[][] {{0, 0, 0, 0}, {1, 0, 0, 0}, {1, 0, 0, 0}}, NONE, 1, 2);
        x = pattern(10, 4, false, false, 4, 4, 4);
        Check.outputs(x, 4, "any three",
                new int[][] {{0, 0, 0, 0}, {1, 0, 0, 0}, {1, 0, 0, 0}, {1, 0, 0, 0}, {1, 0, 0, 0}},
                NONE, NONE, 1, 3, 6);
    }

    /** "less than n after the first" with n 1: later is what happens later, at the same time too. */
    private static void sameTimeIsLaterToo() {
        EventDesk x = pattern(1, 4, false, false, 0, 1);
        Check.outputs(x, 4, "at the same time",
                new int[][] {{5, 0, 0, 0}, {0, 1, 0, 0}, {1, 1, 0, 0}}, NONE, 1, NONE);
    }

    /** "the last one less than n after the first". */
    private static void lessThanNAfterTheFirst() {
        EventDesk x = pattern(3, 4, false, false, 0, 1);
        Check.outputs(x, 4, "less than 3 after",
                new int[][] {{5, 0, 0, 0}, {2, 1, 0, 0}, {0, 0, 0, 0}, {1, 1, 0, 0}, {1, 1, 0, 0}, {1, 1, 0, 0}},
                NONE, 1, NONE, 1, 1, NONE);
        x = pattern(3, 4, false, false, 0, 1, 2);
        Check.outputs(x, 4, "the third less than 3 after the first",
                new int[][] {{0, 0, 0, 0}, {1, 0, 0, 0}, {1, 1, 0, 0}, {1, 2, 0, 0}, {1, 2, 0, 0}},
                NONE, NONE, NONE, 1, NONE);
        x = pattern(1000, 4, false, false, 0, 1);
        x.send(0, 0, 0);
        for (int i = 0; i < 9; i++) {
            x.advance(100);
        }
        Check.outputs(x, 4, "less than 1000 after", new int[][] {{99, 1, 0, 0}, {1, 1, 0, 0}}, 1, NONE);
    }

    /** "no event of the break type happened between two neighbouring ones (after the one and before the other)". */
    private static void breaksOfTwo() {
        EventDesk x = pattern(100, 2, false, false, 0, 1);
        Check.outputs(x, 4, "break 2",
                new int[][] {{0, 0, 0, 0}, {0, 1, 0, 0}, {0, 3, 0, 0}, {0, 2, 0, 0}, {0, 1, 0, 0}, {0, 0, 0, 0},
                    {0, 1, 0, 0}},
                NONE, 1, NONE, NONE, NONE, NONE, 1);
        // The events of a row may be of the break type themselves.
        x = pattern(100, 0, false, false, 0, 1);
        Check.outputs(x, 4, "break 0, the first's",
                new int[][] {{0, 0, 0, 0}, {0, 0, 0, 0}, {0, 1, 0, 0}}, NONE, NONE, 1);
        x = pattern(100, 1, false, false, 0, 1);
        Check.outputs(x, 4, "break 1, the last's",
                new int[][] {{0, 0, 0, 0}, {0, 0, 0, 0}, {0, 1, 0, 0}, {0, 1, 0, 0}}, NONE, NONE, 2, NONE);
        // Whether the event of the break type has the same a does not matter.
        x = pattern(100, 2, true, false, 0, 1);
        Check.outputs(x, 4, "break 2 with another a",
                new int[][] {{0, 0, 1, 0}, {0, 2, 7, 0}, {0, 1, 1, 0}}, NONE, NONE, NONE);
    }

    /** "between two neighbouring ones": between the first two and between the last two. */
    private static void breaksOfThree() {
        int[][] between = {{0, 0, 0, 0}, {0, 3, 0, 0}, {0, 1, 0, 0}, {0, 2, 0, 0}};
        Check.outputs(pattern(100, 3, false, false, 0, 1, 2), 4, "break after the first", between,
                NONE, NONE, NONE, NONE);
        between = new int[][] {{0, 0, 0, 0}, {0, 1, 0, 0}, {0, 3, 0, 0}, {0, 2, 0, 0}};
        Check.outputs(pattern(100, 3, false, false, 0, 1, 2), 4, "break after the second", between,
                NONE, NONE, NONE, NONE);
        between = new int[][] {{0, 3, 0, 0}, {0, 0, 0, 0}, {0, 1, 0, 0}, {0, 2, 0, 0}, {0, 3, 0, 0}, {0, 2, 0, 0}};
        Check.outputs(pattern(100, 3, false, false, 0, 1, 2), 4, "break before and after", between,
                NONE, NONE, NONE, 1, NONE, NONE);
        // The second is of the break type: it stands between no two neighbours of its own row.
        between = new int[][] {{0, 0, 0, 0}, {0, 1, 0, 0}, {0, 2, 0, 0}, {0, 1, 0, 0}, {0, 2, 0, 0}};
        Check.outputs(pattern(100, 1, false, false, 0, 1, 2), 4, "break 1, the second's", between,
                NONE, NONE, 1, NONE, NONE);
        // A middle of any type: of those before the break none, the break itself, of those after it none.
        between = new int[][] {{0, 0, 0, 0}, {0, 1, 0, 0}, {0, 3, 0, 0}, {0, 1, 0, 0}, {0, 2, 0, 0}};
        Check.outputs(pattern(100, 3, false, false, 0, 4, 2), 4, "any middle, break 3", between,
                NONE, NONE, NONE, NONE, 1);
    }

    /** "all have the same a if EQUAL". */
    private static void equalA() {
        EventDesk x = pattern(100, 4, true, false, 0, 1);
        Check.outputs(x, 4, "equal",
                new int[][] {{0, 0, 1, 0}, {0, 0, L, 0}, {0, 1, 1, 0}, {0, 1, L, 0}, {0, 1, 3, 0}},
                NONE, NONE, 1, 1, NONE);
        x = pattern(100, 4, true, false, 0, 1, 2);
        Check.outputs(x, 4, "equal, three",
                new int[][] {{0, 0, 1, 0}, {0, 1, 2, 0}, {0, 2, 1, 0}, {0, 1, 1, 0}, {0, 2, 2, 0}, {0, 2, 1, 0}},
                NONE, NONE, NONE, NONE, NONE, 1);
    }

    /** "if ONCE, no match with the same first event ended with an event before". */
    private static void once() {
        EventDesk x = pattern(100, 4, false, true, 0, 1);
        Check.outputs(x, 4, "once",
                new int[][] {{0, 0, 0, 0}, {0, 0, 0, 0}, {0, 1, 0, 0}, {0, 1, 0, 0}, {0, 0, 0, 0}, {0, 1, 0, 0},
                    {0, 1, 0, 0}},
                NONE, NONE, 2, NONE, NONE, 1, NONE);
        // With conditions that all meet, each event may still begin one match.
        x = pattern(100, 4, false, true, 4, 4);
        Check.outputs(x, 4, "once, any two",
                new int[][] {{0, 0, 0, 0}, {0, 0, 0, 0}, {0, 0, 0, 0}}, NONE, 1, 1);
        x = pattern(100, 4, true, true, 0, 1);
        Check.outputs(x, 4, "once, equal",
                new int[][] {{0, 0, 1, 0}, {0, 0, 2, 0}, {0, 1, 1, 0}, {0, 1, 2, 0}, {0, 1, 1, 0}},
                NONE, NONE, 1, 1, NONE);
        // Two patterns do not disturb one another.
        x = pattern(100, 4, false, true, 0, 1);
        Check.typesAre(x, 0, 2);
        x.pattern(5, 100, 4, false, true);
        Check.sends(x, "two patterns", new int[][] {{0, 0, 0}, {1, 0, 0}, {2, 0, 0}, {1, 0, 0}, {2, 0, 0}}, 0, 1, 1, 0, 0);
    }

    /** "with the same first event", whichever the second is. */
    private static void onceOfThree() {
        EventDesk x = pattern(100, 4, false, true, 0, 1, 2);
        Check.outputs(x, 4, "once, three",
                new int[][] {{0, 0, 0, 0}, {0, 1, 0, 0}, {0, 1, 0, 0}, {0, 2, 0, 0}, {0, 0, 0, 0}, {0, 2, 0, 0},
                    {0, 1, 0, 0}, {0, 2, 0, 0}},
                NONE, NONE, NONE, 2, NONE, NONE, NONE, 1);
    }

    /** "no match .. ended": also one whose output did not count. */
    private static void onceThoughNotCounted() {
        EventDesk x = pattern(100, 4, false, true, 0, 1);
        x.giving(4, 1, 1, 4);
        Check.outputs(x, 4, "once, more than 1",
                new int[][] {{0, 0, 0, 0}, {0, 1, 0, 0}, {0, 0, 0, 0}, {0, 1, 0, 0}}, NONE, NONE, NONE, NONE);
    }

    /** "A question sees the events that happen from when it is set on". */
    private static void seesFromWhenItIsSet() {
        EventDesk x = pattern(100, 4, false, true, 0, 1);
        x.send(0, 0, 0);
        x.send(1, 0, 0);
        Check.typesAre(x, 0, 1);
        x.pattern(4, 100, 4, false, true);
        Check.outputs(x, 4, "set later",
                new int[][] {{0, 1, 0, 0}, {0, 0, 0, 0}, {0, 1, 0, 0}}, NONE, NONE, 1);
        Check.typesAre(x, 0, 1, 2);
        x.pattern(4, 100, 4, false, false);
        Check.outputs(x, 4, "set later, three",
                new int[][] {{0, 2, 0, 0}, {0, 1, 0, 0}, {0, 2, 0, 0}, {0, 0, 0, 0}, {0, 1, 0, 0}, {0, 2, 0, 0}},
                NONE, NONE, NONE, NONE, NONE, 1);
    }

    /** Routed events are events. */
    private static void routedEventsMatch() {
        EventDesk x = new EventDesk();
        Check.typeIs(x, 0);
        x.window(1, 0, 0, 1, false);
        x.giving(1, 0, 1, 1);
        Check.typesAre(x, 0, 1);
        x.pattern(2, 1, 4, true, false);
        Check.due("a of the routed event is the slot", x.send(0, 1, 9), 2);
        Check.due("no match with another a", x.send(0, 2, 9), 2);
        Check.due("given", x.given(2, 0), 2);
        Check.due("output", x.output(2, 0), 1);
    }

    /** "the output is their number": the greatest that there can be. */
    private static void manyMatches() {
        EventDesk x = pattern(1000, 4, true, false, 4, 4, 4);
        for (int i = 0; i < 64; i++) {
            x.send(0, 0, 0);
        }
        Check.due("of 64 events", x.output(4, 0), 63 * 62 / 2);
        Check.due("given", x.given(4, 0), 62);
    }

    /** "a BREAK type 0..3 or 4 for none": each type, between each two neighbours, of two and of three. */
    private static void eachBreakType() {
        for (int stop = 0; stop <= 4; stop++) {
            for (int between = 0; between <= 3; between++) {
                long want = between == stop ? NONE : 1;
                String what = "break " + stop + ", a " + between + " between";
                // The row's own events are told by their a alone, so that any type may stand between.
                EventDesk x = new EventDesk();
                Check.condition(x, 1, 0, 10, 9);
                Check.condition(x, 1, 0, 20, 9);
                Check.due("pattern", x.pattern(4, 100, stop, false, false), true);
                int other = (stop + 1) % 4;
                Check.outputs(x, 4, what,
                        new int[][] {{0, other, 10, 0}, {0, between, 0, 0}, {0, other, 20, 0}}, NONE, NONE, want);
                for (int place = 1; place <= 2; place++) {
                    x = new EventDesk();
                    Check.condition(x, 1, 0, 10, 9);
                    Check.condition(x, 1, 0, 20, 9);
                    Check.condition(x, 1, 0, 30, 9);
                    Check.due("pattern", x.pattern(4, 100, stop, false, false), true);
                    x.send(other, 10, 0);
                    x.send(place == 1 ? between : other, place == 1 ? 0 : 20, 0);
                    x.send(place == 2 ? between : other, place == 2 ? 0 : 20, 0);
                    Check.outputs(x, 4, what + " in place " + place, new int[][] {{0, other, 30, 0}}, want);
                }
            }
        }
    }

    /** "(after the one and before the other)": the row's own events are between no two of it. */
    private static void rowsOfTheBreakType() {
        for (int stop = 0; stop <= 4; stop++) {
            EventDesk x = pattern(100, stop, false, false, 4, 4);
            long third = stop == 2 ? 1 : 2;
            Check.outputs(x, 4, "two of one type, break " + stop,
                    new int[][] {{0, 2, 0, 0}, {0, 2, 0, 0}, {0, 2, 0, 0}}, NONE, 1, third);
            x = pattern(100, stop, false, false, 4, 4, 4);
            Check.outputs(x, 4, "three of one type, break " + stop,
                    new int[][] {{0, 2, 0, 0}, {0, 2, 0, 0}, {0, 2, 0, 0}, {0, 2, 0, 0}},
                    NONE, NONE, 1, stop == 2 ? 1 : 3);
        }
    }

    /** A break ends rows that have begun; it does not keep later ones from beginning. */
    private static void breakBeforeTheFirst() {
        EventDesk x = pattern(100, 3, false, false, 0, 1);
        Check.outputs(x, 4, "break before",
                new int[][] {{0, 3, 0, 0}, {0, 0, 0, 0}, {0, 1, 0, 0}, {0, 3, 0, 0}, {0, 0, 0, 0}, {0, 1, 0, 0}},
                NONE, NONE, 1, NONE, NONE, 1);
        // At the same time, too, what happened before the first is not between.
        x = pattern(1, 3, false, false, 0, 1);
        Check.outputs(x, 4, "break before, at the same time",
                new int[][] {{5, 3, 0, 0}, {0, 0, 0, 0}, {0, 1, 0, 0}, {0, 3, 0, 0}, {0, 1, 0, 0}},
                NONE, NONE, 1, NONE, NONE);
    }

    /** "the last one less than n after the first": each side of some n, of two and of three. */
    private static void eachSideOfN() {
        for (int n : new int[] {1, 2, 16, 17, 99, 100}) {
            EventDesk x = pattern(n, 4, false, false, 0, 1);
            Check.outputs(x, 4, "n " + n, new int[][] {{3, 0, 0, 0}, {n - 1, 1, 0, 0}, {1, 1, 0, 0}}, NONE, 1, NONE);
            x = pattern(n, 4, false, false, 0, 1, 2);
            Check.outputs(x, 4, "n " + n + " of three",
                    new int[][] {{3, 0, 0, 0}, {0, 1, 0, 0}, {n - 1, 2, 0, 0}, {1, 2, 0, 0}}, NONE, NONE, 1, NONE);
            x = pattern(n, 4, false, false, 0, 1, 2);
            Check.outputs(x, 4, "n " + n + " of three, the second late",
                    new int[][] {{3, 0, 0, 0}, {n - 1, 1, 0, 0}, {0, 2, 0, 0}, {1, 2, 0, 0}}, NONE, NONE, 1, NONE);
        }
        for (int n : new int[] {101, 999, 1000}) {
            for (int late = 0; late <= 1; late++) {
                EventDesk x = pattern(n, 4, false, false, 0, 1);
                x.send(0, 0, 0);
                goOn(x, n - 1 + late);
                Check.due("n " + n + ", " + (n - 1 + late) + " after", x.send(1, 0, 0), 1 - late);
            }
        }
    }

    private static void goOn(EventDesk x, int d) {
        for (int left = d; left > 0; left -= 100) {
            x.advance(Math.min(left, 100));
        }
    }

    /** "no match with the same first event ended with an event before": a row that was no match does not count. */
    private static void onceAfterRowsThatWereNone() {
        // Broken: the first can not be in a match any more, but the next first can.
        EventDesk x = pattern(100, 2, false, true, 0, 1);
        Check.outputs(x, 4, "once, broken",
                new int[][] {{0, 0, 0, 0}, {0, 2, 0, 0}, {0, 1, 0, 0}, {0, 0, 0, 0}, {0, 1, 0, 0}, {0, 1, 0, 0}},
                NONE, NONE, NONE, NONE, 1, NONE);
        // Another a: the first is still free for its own.
        x = pattern(100, 4, true, true, 0, 1, 1);
        Check.outputs(x, 4, "once, equal",
                new int[][] {{0, 0, 1, 0}, {0, 1, 2, 0}, {0, 1, 1, 0}, {0, 1, 2, 0}, {0, 1, 1, 0}, {0, 1, 1, 0}},
                NONE, NONE, NONE, NONE, 1, NONE);
        // The same second event serves another first.
        x = pattern(100, 4, false, true, 0, 1, 2);
        Check.outputs(x, 4, "once, one second for two firsts",
                new int[][] {{0, 0, 0, 0}, {0, 0, 0, 0}, {0, 1, 0, 0}, {0, 2, 0, 0}, {0, 2, 0, 0}},
                NONE, NONE, NONE, 2, NONE);
        // The last of one match may be the first of another.
        x = pattern(100, 4, false, true, 4, 4, 4);
        Check.outputs(x, 4, "once, any three",
                new int[][] {{0, 0, 0, 0}, {0, 0, 0, 0}, {0, 0, 0, 0}, {0, 0, 0, 0}, {0, 0, 0, 0}},
                NONE, NONE, 1, 1, 1);
    }

    /** "For each event with which matches end": all that end with it are counted, ONCE or not. */
    private static void allMatchesThatEndTogether() {
        int[][] events = {{0, 0, 0, 0}, {0, 0, 0, 0}, {0, 1, 0, 0}, {0, 1, 0, 0}, {0, 1, 0, 0}, {0, 2, 0, 0}, {0, 2, 0, 0}};
        Check.outputs(pattern(100, 4, false, true, 0, 1, 2), 4, "once", events, NONE, NONE, NONE, NONE, NONE, 6, NONE);
        Check.outputs(pattern(100, 4, false, false, 0, 1, 2), 4, "not once", events, NONE, NONE, NONE, NONE, NONE, 6, 6);
    }

    /** An event that meets several of the conditions stands in a row only once. */
    private static void eachLaterThanTheOneBefore() {
        EventDesk x = pattern(100, 4, false, false, 0, 0, 0);
        Check.outputs(x, 4, "three of type 0",
                new int[][] {{0, 0, 0, 0}, {0, 0, 0, 0}, {0, 1, 0, 0}, {0, 0, 0, 0}}, NONE, NONE, NONE, 1);
        x = pattern(100, 4, false, false, 1, 0);
        Check.outputs(x, 4, "0 before 1 is no row", new int[][] {{0, 0, 0, 0}, {0, 1, 0, 0}, {0, 0, 0, 0}}, NONE, NONE, 1);
        x = pattern(100, 4, false, false, 0, 2, 1);
        Check.outputs(x, 4, "0, 1, 2 is no 0, 2, 1",
                new int[][] {{0, 0, 0, 0}, {0, 1, 0, 0}, {0, 2, 0, 0}, {0, 1, 0, 0}}, NONE, NONE, NONE, 1);
    }

    /** "all have the same a if EQUAL": the second of three as well, and a at both ends. */
    private static void equalOfThree() {
        EventDesk x = pattern(100, 4, true, false, 0, 1, 2);
        Check.outputs(x, 4, "the second differs",
                new int[][] {{0, 0, L, 0}, {0, 1, H, 0}, {0, 2, L, 0}, {0, 2, H, 0}, {0, 1, L, 0}, {0, 2, H, 0}, {0, 2, L, 0}},
                NONE, NONE, NONE, NONE, NONE, NONE, 1);
        x = pattern(100, 4, false, false, 0, 1, 2);
        Check.outputs(x, 4, "not EQUAL",
                new int[][] {{0, 0, L, 0}, {0, 1, H, 0}, {0, 2, 0, 0}}, NONE, NONE, 1);
    }

    /** "At most 64 happen": rows across all of them. */
    private static void firstAndLastOfAll() {
        EventDesk x = pattern(1, 4, true, true, 0, 1);
        x.send(0, 7, 0);
        for (int i = 0; i < 62; i++) {
            Check.due("between", x.send(2 + i % 2, 7, 0), 0);
        }
        Check.due("the 64th ends a match with the first", x.send(1, 7, 0), 1);
        Check.due("output", x.output(4, 0), 1);
    }

    /** ONCE looks at the event, not at what it is like: routed ones and sent ones, alike and unlike. */
    private static void onceOfRoutedEvents() {
        EventDesk x = new EventDesk();
        for (int slot = 0; slot <= 1; slot++) {
            Check.typeIs(x, 0);
            x.window(slot, 1, 1, 1, false);
            x.giving(slot, 0, 1, 1);
        }
        Check.condition(x, 3, 0, 2, 8);
        Check.typeIs(x, 2);
        x.pattern(4, 100, 4, true, true);
        // A 0 with an a of 5, two routed 1s (their a is 0 and 1), and a 1 with an a of 9: each begins a row.
        Check.due("two are routed", x.send(0, 5, 7), 2);
        x.send(1, 9, 7);
        Check.outputs(x, 4, "each on its own",
                new int[][] {{0, 2, 5, 0}, {0, 2, 1, 0}, {0, 2, 9, 0}, {0, 2, 0, 0}}, 1, 1, 1, 1);
        Check.outputs(x, 4, "each once",
                new int[][] {{0, 2, 5, 0}, {0, 2, 1, 0}, {0, 2, 9, 0}, {0, 2, 0, 0}}, NONE, NONE, NONE, NONE);
        x.send(0, 5, 7);
        x.send(0, 5, 7);
        Check.outputs(x, 4, "two of each",
                new int[][] {{0, 2, 0, 0}, {0, 2, 1, 0}, {0, 2, 0, 0}, {0, 2, 5, 0}}, 2, 2, NONE, 2);
        // Firsts that are alike in all, one after the other.
        x = pattern(100, 4, true, true, 0, 1);
        int[][] pair = {{0, 0, 3, 3}, {0, 1, 3, 3}};
        for (int i = 0; i < 5; i++) {
            Check.outputs(x, 4, "alike", pair, NONE, 1);
        }
    }
}
