/** Promises 15 to 17 (given, output, state). */
public final class AnswersTest {
    private static final int L = Check.LOWEST;
    private static final int H = Check.HIGHEST;

    public static void main(String[] args) {
        whatGivenAnswers();
        latestEightOutputs();
        outputsOfNothing();
        whatStateAnswers();
        givenInAll();
        outputsOfEachSlot();
        outputsThatWereGiven();
        givenSince();
        goneQuestionsCount();
        Check.finish();
    }

    private static EventDesk echo(int slot) {
        EventDesk x = new EventDesk();
        Check.always(x);
        x.window(slot, 1, 1, 1, false);
        return x;
    }

    /** "given (what 0) or counted (what 1) ..; -1 if there is none, or what is another". */
    private static void whatGivenAnswers() {
        EventDesk x = echo(5);
        Check.due("given at first", x.given(5, 0), 0);
        Check.due("counted at first", x.given(5, 1), 0);
        x.giving(5, 0, 2, 4);
        x.send(0, 0, 1);
        x.send(0, 0, 0);
        x.send(0, 0, 1);
        x.send(0, 0, 1);
        Check.due("given", x.given(5, 0), 1);
        Check.due("counted", x.given(5, 1), 3);
        for (int what : new int[] {-1, 2, 3, L, H}) {
            Check.due("given(5, " + what + ")", x.given(5, what), -1);
        }
        for (int slot : new int[] {-1, 0, 1, 2, 3, 4, 6, L, H}) {
            Check.due("given(" + slot + ", 0)", x.given(slot, 0), -1);
            Check.due("given(" + slot + ", 1)", x.given(slot, 1), -1);
            Check.due("given(" + slot + ", 2)", x.given(slot, 2), -1);
        }
    }

    /** "Its output given k before the latest (k 0..7)". */
    private static void latestEightOutputs() {
        EventDesk x = echo(0);
        for (int i = 1; i <= 30; i++) {
            x.send(0, 0, i * 100);
            for (int k = -2; k <= 10; k++) {
                boolean isThere = k >= 0 && k <= 7 && k < i;
                Check.due("output(0, " + k + ") of " + i, x.output(0, k), isThere ? (i - k) * 100 : 0);
            }
        }
        EventDesk y = echo(0);
        y.giving(0, 0, 3, 4);
        for (int i = 1; i <= 30; i++) {
            y.send(0, 0, i);
        }
        for (int k = 0; k <= 7; k++) {
            Check.due("of each third: output(0, " + k + ")", y.output(0, k), 30 - 3 * k);
        }
    }

    /** "0 if there is none". */
    private static void outputsOfNothing() {
        EventDesk x = echo(2);
        Check.due("none yet", x.output(2, 0), 0);
        x.send(0, 0, 5);
        for (int slot : new int[] {-1, 0, 1, 3, 4, 5, 6, L, H}) {
            Check.due("output(" + slot + ", 0)", x.output(slot, 0), 0);
        }
        for (int k : new int[] {-1, 1, 7, 8, 9, L, H}) {
            Check.due("output(2, " + k + ")", x.output(2, k), 0);
        }
        Check.due("output(2, 0)", x.output(2, 0), 5);
        x.remove(2);
        Check.due("of a question that is gone", x.output(2, 0), 0);
    }

    /** "What 0: .. 1: .. 2: .. 3: ..; else -1". */
    private static void whatStateAnswers() {
        EventDesk x = echo(1);
        x.advance(20);
        x.send(0, 0, 5);
        x.send(0, 0, 5);
        x.giving(1, 0, 2, 4);
        x.send(0, 0, 5);
        Check.state(x, "three events", 3, 0, 20, 2);
        for (int what : new int[] {-1, 4, 5, L, H}) {
            Check.due("state(" + what + ")", x.state(what), -1);
        }
    }

    /** "how many outputs were given in all, by questions now gone too". */
    private static void givenInAll() {
        EventDesk x = echo(1);
        x.send(0, 0, 5);
        Check.always(x);
        x.window(2, 0, 0, 0, false);
        x.send(0, 0, 5);
        Check.due("three", x.state(3), 3);
        x.remove(1);
        Check.due("of one that was removed, too", x.state(3), 3);
        Check.always(x);
        x.window(2, 0, 0, 0, false);
        Check.due("of one that was replaced, too", x.state(3), 3);
        x.send(0, 0, 5);
        Check.due("four", x.state(3), 4);
        Check.due("of the new one", x.given(2, 0), 1);
    }

    /** "k 0..7": after each number of outputs, in each slot. */
    private static void outputsOfEachSlot() {
        for (int slot = 0; slot <= 5; slot++) {
            EventDesk x = echo(slot);
            for (int i = 1; i <= 17; i++) {
                x.send(0, 0, -i);
                for (int k = 0; k <= 8; k++) {
                    boolean isThere = k <= 7 && k < i;
                    Check.due("output(" + slot + ", " + k + ") of " + i, x.output(slot, k), isThere ? k - i : 0);
                }
            }
        }
    }

    /** Only what was given is an output; what did not count, or was passed over, is none. */
    private static void outputsThatWereGiven() {
        EventDesk x = echo(0);
        x.giving(0, 0, 2, 4);
        for (int i = 1; i <= 6; i++) {
            x.send(0, 0, i);
            x.send(0, 0, -i);
        }
        Check.due("given", x.given(0, 0), 3);
        Check.due("counted", x.given(0, 1), 6);
        int[] want = {6, 4, 2, 0, 0, 0, 0, 0};
        for (int k = 0; k <= 7; k++) {
            Check.due("output " + k, x.output(0, k), want[k]);
        }
    }

    /** "since it was set (or clear())". */
    private static void givenSince() {
        EventDesk x = echo(4);
        x.send(0, 0, 1);
        x.send(0, 0, 2);
        x.clear();
        Check.due("given since clear", x.given(4, 0), 0);
        Check.due("counted since clear", x.given(4, 1), 0);
        Check.due("output since clear", x.output(4, 0), 0);
        x.send(0, 0, 3);
        Check.due("given since clear", x.given(4, 0), 1);
        Check.due("counted since clear", x.given(4, 1), 1);
        Check.due("output since clear", x.output(4, 0), 3);
        Check.due("none before", x.output(4, 1), 0);
        Check.always(x);
        x.window(4, 1, 1, 1, false);
        Check.due("given since set", x.given(4, 0), 0);
        Check.due("counted since set", x.given(4, 1), 0);
        Check.due("output since set", x.output(4, 0), 0);
        Check.due("in all since clear", x.state(3), 1);
    }

    /** "by questions now gone too": removed, replaced, or both; but not beyond clear(). */
    private static void goneQuestionsCount() {
        EventDesk x = new EventDesk();
        int given = 0;
        for (int slot = 0; slot <= 5; slot++) {
            Check.always(x);
            x.window(slot, 1, 1, 1, false);
            x.send(0, 0, 1);
            given++;
            Check.due("one more", x.state(3), given);
            if (slot % 2 == 0) {
                x.remove(slot);
            } else {
                Check.typesAre(x, 3, 3);
                x.join(slot, 1, 1);
            }
            Check.due("gone", x.state(3), given);
        }
        Check.due("happened", x.state(0), 6);
        x.clear();
        Check.due("cleared", x.state(3), 0);
    }
}
