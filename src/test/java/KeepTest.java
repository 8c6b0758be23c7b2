/** Promises 12 to 14 (keep, restore, clear). */
public final class KeepTest {
    private static final int L = Check.LOWEST;
    private static final long NONE = Check.NONE;

    public static void main(String[] args) {
        nothingKept();
        keptStateComesBack();
        keptStateStaysKept();
        laterKeepReplaces();
        programAndListAreNoPart();
        questionsComeBack();
        whatQuestionsSawComesBack();
        onceComesBack();
        breaksComeBack();
        lostComesBack();
        emptyStateCanBeKept();
        clearForgets();
        clearKeepsQuestions();
        clearedPatternsAndJoins();
        clearKeepsProgramAndKept();
        nothingReachesWhatIsKept();
        eightOutputsComeBack();
        keptLast();
        halvesComeBack();
        clearAnswersEachNumber();
        clearedViews();
        clearBringsNothingBack();
        everySettingComesBack();
        everySettingIsCleared();
        Check.finish();
    }

    private static EventDesk sum() {
        EventDesk x = new EventDesk();
        Check.always(x);
        x.window(0, 0, 0, 1, false);
        return x;
    }

    /** "false if none was". */
    private static void nothingKept() {
        EventDesk x = sum();
        x.send(0, 0, 5);
        x.advance(3);
        Check.due("restore", x.restore(), false);
        Check.state(x, "as it was", 1, 0, 3, 1);
        Check.due("output", x.output(0, 0), 5);
    }

    /** "Takes the state back that was kept last". */
    private static void keptStateComesBack() {
        EventDesk x = sum();
        x.send(0, 0, 5);
        x.advance(3);
        x.keep();
        Check.state(x, "keep changes nothing", 1, 0, 3, 1);
        x.send(0, 0, 6);
        x.advance(4);
        x.send(0, 0, 7);
        Check.due("restore", x.restore(), true);
        Check.state(x, "as kept", 1, 0, 3, 1);
        Check.due("given", x.given(0, 0), 1);
        Check.due("counted", x.given(0, 1), 1);
        Check.due("output", x.output(0, 0), 5);
        Check.due("output before", x.output(0, 1), 0);
        Check.due("advance", x.advance(0), 3);
        x.send(0, 0, 1);
        Check.due("the sum goes on from there", x.output(0, 0), 6);
    }

    /** "(it stays kept)". */
    private static void keptStateStaysKept() {
        EventDesk x = sum();
        x.send(0, 0, 5);
        x.keep();
        for (int i = 1; i <= 3; i++) {
            x.send(0, 0, i);
            Check.due("sum", x.output(0, 0), 5 + i);
            Check.due("restore", x.restore(), true);
            Check.due("output", x.output(0, 0), 5);
            Check.due("happened", x.state(0), 1);
        }
    }

    /** "that was kept last". */
    private static void laterKeepReplaces() {
        EventDesk x = sum();
        x.keep();
        x.send(0, 0, 5);
        x.keep();
        x.send(0, 0, 6);
        Check.due("restore", x.restore(), true);
        Check.state(x, "the later one", 1, 0, 0, 1);
        Check.due("restore", x.restore(), true);
        Check.state(x, "still the later one", 1, 0, 0, 1);
    }

    /** "The program and the list are no part of it". */
    private static void programAndListAreNoPart() {
        EventDesk x = new EventDesk();
        Check.typeIs(x, 1);
        Check.terms(x, 3, 0, 2);
        x.keep();
        Check.due("keep leaves them", x.drop(), 3);
        Check.due("restore", x.restore(), true);
        Check.due("restore does not bring them back", x.drop(), 0);
        Check.typesAre(x, 1, 2);
        Check.terms(x, 3);
        Check.due("restore", x.restore(), true);
        Check.due("nor does it take them away", x.drop(), 3);
        Check.typeIs(x, 1);
        Check.terms(x, 3, 0, 2);
        x.restore();
        Check.terms(x, 9);
        Check.due("window of the list", x.window(0, 0, 0, 0, false), true);
        Check.due("condition of the program", x.condition(), true);
        Check.due("window of it", x.window(1, 0, 0, 0, false), true);
        Check.sends(x, "1 and 2", new int[][] {{0, 0, 0}, {1, 0, 0}, {2, 0, 0}}, 0, 1, 1);
        Check.due("slot 0", x.given(0, 0), 1);
        Check.due("slot 1", x.given(1, 0), 1);
    }

    /** "Keeps the state: questions". */
    private static void questionsComeBack() {
        EventDesk x = sum();
        x.giving(0, 10, 2, 3);
        Check.typesAre(x, 0, 1);
        x.pattern(1, 5, 2, true, true);
        Check.typesAre(x, 0, 1);
        x.join(2, 3, 4);
        x.keep();
        x.giving(0, 0, 1, 4);
        x.remove(1);
        Check.always(x);
        x.window(2, 0, 0, 0, false);
        Check.always(x);
        x.window(3, 0, 0, 0, false);
        Check.due("restore", x.restore(), true);
        Check.due("slot 3 is empty again", x.given(3, 0), -1);
        Check.due("slot 1 is there again", x.given(1, 0), 0);
        Check.due("sum 9: not more than 10", x.send(0, 1, 9), 0);
        Check.due("sum 11: the first that counts", x.send(0, 2, 2), 0);
        // Sum 12 is given and routed (sum 24 counts, but is not given); pattern and join have one each.
        Check.due("sum 12, a match, a pair", x.send(1, 1, 1), 3);
        Check.due("the routed event", x.state(0), 4);
        Check.due("sum", x.output(0, 0), 12);
        Check.due("counted", x.given(0, 1), 3);
        Check.due("pattern", x.output(1, 0), 1);
        Check.due("join", x.output(2, 0), 9);
        x.send(1, 1, 0);
        Check.due("pattern, once", x.given(1, 0), 1);
        Check.due("join", x.given(2, 0), 2);
    }

    /** "Keeps the state: .. events". */
    private static void whatQuestionsSawComesBack() {
        EventDesk x = sum();
        x.send(0, 0, 1);
        Check.always(x);
        x.window(1, 3, 3, 1, false);
        x.send(0, 0, 2);
        x.send(0, 0, 4);
        x.keep();
        x.clear();
        x.send(3, 9, 100);
        x.send(3, 9, 200);
        x.send(3, 9, 300);
        x.send(3, 9, 400);
        Check.due("restore", x.restore(), true);
        Check.due("the batch is full", x.send(0, 0, 8), 2);
        Check.due("sum", x.output(0, 0), 15);
        Check.due("batch", x.output(1, 0), 14);
        Check.due("restore", x.restore(), true);
        // The events' a, type and time are those of then, too.
        x.remove(0);
        x.remove(1);
        Check.typesAre(x, 0, 0);
        x.pattern(0, 5, 4, true, false);
        x.advance(10);
        x.send(0, 1, 0);
        x.advance(3);
        x.keep();
        x.clear();
        x.advance(90);
        x.send(3, 2, 0);
        x.send(3, 2, 0);
        x.send(3, 2, 0);
        x.send(3, 2, 0);
        x.restore();
        x.advance(1);
        Check.due("a match", x.send(0, 1, 0), 1);
        x.restore();
        x.advance(2);
        Check.due("too late", x.send(0, 1, 0), 0);
        x.restore();
        Check.due("another a", x.send(0, 2, 0), 0);
    }

    /** Which first events have ended a match is part of the state. */
    private static void onceComesBack() {
        EventDesk x = new EventDesk();
        Check.typesAre(x, 0, 1);
        x.pattern(0, 100, 2, false, true);
        x.send(0, 0, 0);
        x.keep();
        Check.due("a match", x.send(1, 0, 0), 1);
        Check.due("once", x.send(1, 0, 0), 0);
        x.restore();
        Check.due("it has not ended again", x.send(1, 0, 0), 1);
        x.keep();
        x.clear();
        x.send(0, 0, 0);
        x.restore();
        Check.due("it has ended", x.send(1, 0, 0), 0);
        x.restore();
        Check.sends(x, "a new first", new int[][] {{0, 0, 0}, {1, 0, 0}}, 0, 1);
        Check.due("of one", x.output(0, 0), 1);
    }

    /** Events of the break type are part of the state. */
    private static void breaksComeBack() {
        EventDesk x = new EventDesk();
        Check.typesAre(x, 0, 1);
        x.pattern(0, 100, 2, false, false);
        x.send(0, 0, 0);
        x.send(2, 0, 0);
        x.keep();
        x.clear();
        x.send(3, 0, 0);
        x.send(3, 0, 0);
        x.restore();
        Check.due("the break still stands between", x.send(1, 0, 0), 0);
        x.clear();
        x.send(0, 0, 0);
        x.send(3, 0, 0);
        x.keep();
        x.clear();
        x.send(2, 0, 0);
        x.send(2, 0, 0);
        x.restore();
        Check.due("there was no break", x.send(1, 0, 0), 1);
    }

    /** How many were lost is part of the state. */
    private static void lostComesBack() {
        EventDesk x = sum();
        x.giving(0, L, 1, 0);
        x.keep();
        x.send(0, 0, 0);
        Check.due("lost", x.state(1), 1);
        x.restore();
        Check.state(x, "none was lost", 0, 0, 0, 0);
        x.send(0, 0, 0);
        x.keep();
        x.clear();
        x.restore();
        Check.state(x, "one was lost", 64, 1, 0, 64);
        Check.due("no more events", x.send(0, 0, 0), -1);
        Check.due("clear", x.clear(), 64);
    }

    /** "false if none was": an empty state was one. */
    private static void emptyStateCanBeKept() {
        EventDesk x = new EventDesk();
        x.keep();
        Check.always(x);
        x.window(0, 0, 0, 1, false);
        x.send(0, 0, 5);
        x.advance(5);
        Check.due("restore", x.restore(), true);
        Check.state(x, "empty", 0, 0, 0, 0);
        Check.due("no question", x.given(0, 0), -1);
        Check.due("no question, no output", x.output(0, 0), 0);
    }

    /** "All events and outputs are forgotten, the time is 0". */
    private static void clearForgets() {
        EventDesk x = new EventDesk();
        Check.always(x);
        x.window(0, 0, 0, 0, false);
        x.giving(0, L, 1, 0);
        Check.due("send", x.send(0, 0, 1), 64);
        x.advance(9);
        Check.due("clear", x.clear(), 64);
        Check.state(x, "all forgotten", 0, 0, 0, 0);
        Check.due("given", x.given(0, 0), 0);
        Check.due("counted", x.given(0, 1), 0);
        for (int k = 0; k < 8; k++) {
            Check.due("output", x.output(0, k), 0);
        }
        Check.due("advance", x.advance(2), 2);
        Check.due("clear again", x.clear(), 0);
        Check.due("the time is 0 again", x.state(2), 0);
    }

    /** "the questions stay, having seen nothing". */
    private static void clearKeepsQuestions() {
        EventDesk x = sum();
        x.giving(0, 10, 2, 3);
        x.send(0, 0, 11);
        Check.due("counted", x.given(0, 1), 1);
        Check.due("clear", x.clear(), 1);
        Check.due("sum 11 counts as the first", x.send(0, 0, 11), 0);
        Check.due("sum 12 is given and routed", x.send(0, 0, 1), 1);
        Check.due("happened", x.state(0), 3);
        Check.due("given", x.given(0, 0), 1);
        Check.due("counted", x.given(0, 1), 3);
        Check.due("output", x.output(0, 0), 12);
        Check.due("none before it", x.output(0, 1), 0);
        // A question that was set after some events saw from there on; now it sees from the beginning.
        x = new EventDesk();
        x.send(0, 0, 1);
        x.send(0, 0, 1);
        Check.always(x);
        x.window(0, 0, 0, 1, false);
        x.clear();
        Check.outputs(x, 0, "from the beginning", new int[][] {{0, 0, 0, 1}, {0, 0, 0, 2}, {0, 0, 0, 4}}, 1, 3, 7);
    }

    /** "the questions stay, having seen nothing": patterns and joins. */
    private static void clearedPatternsAndJoins() {
        EventDesk x = new EventDesk();
        Check.typesAre(x, 0, 1);
        x.pattern(0, 100, 2, false, true);
        Check.typesAre(x, 0, 1);
        x.join(1, 5, 5);
        x.send(0, 0, 1);
        x.send(1, 0, 1);
        Check.due("clear", x.clear(), 2);
        Check.due("no first, no left", x.send(1, 0, 2), 0);
        Check.due("a right", x.send(0, 0, 4), 1);
        Check.due("a match and a pair", x.send(1, 0, 8), 2);
        Check.due("pattern", x.output(0, 0), 1);
        Check.due("join", x.output(1, 0), 4);
        x.clear();
        x.send(0, 0, 1);
        Check.outputs(x, 0, "not ended before", new int[][] {{0, 1, 0, 0}, {0, 1, 0, 0}}, 1, NONE);
    }

    /** "What is kept stays". */
    private static void clearKeepsProgramAndKept() {
        EventDesk x = sum();
        x.send(0, 0, 5);
        x.advance(1);
        x.keep();
        Check.typesAre(x, 0, 1);
        Check.terms(x, 3);
        Check.due("clear", x.clear(), 1);
        Check.due("program and list stay", x.drop(), 3);
        Check.due("what is kept stays", x.restore(), true);
        Check.state(x, "as kept", 1, 0, 1, 1);
        Check.due("output", x.output(0, 0), 5);
    }

    /** A window's, a pattern's and a join's question, each with something seen and given. */
    private static EventDesk three() {
        EventDesk x = new EventDesk();
        Check.always(x);
        x.window(0, 1, 3, 1, false);
        Check.typesAre(x, 0, 1);
        x.pattern(1, 50, 2, true, true);
        Check.typesAre(x, 0, 1);
        x.join(2, 2, 2);
        x.send(0, 1, 5);
        x.send(1, 1, 6);
        x.advance(4);
        x.send(0, 1, 7);
        return x;
    }

    private static void isAsThree(EventDesk x, String what) {
        Check.state(x, what, 3, 0, 4, 6);
        int[][] want = {{3, 3, 18, 11, 5, 0}, {1, 1, 1, 0, 0, 0}, {2, 2, 6, 5, 0, 0}};
        for (int slot = 0; slot <= 2; slot++) {
            Check.due(what + ": given " + slot, x.given(slot, 0), want[slot][0]);
            Check.due(what + ": counted " + slot, x.given(slot, 1), want[slot][1]);
            for (int k = 0; k <= 3; k++) {
                Check.due(what + ": output " + slot + " " + k, x.output(slot, k), want[slot][2 + k]);
            }
        }
        for (int slot = 3; slot <= 5; slot++) {
            Check.due(what + ": nothing in " + slot, x.given(slot, 0), -1);
        }
        // What was seen: two more in the window, a first that has not ended, two on the left.
        Check.due(what + ": goes on", x.send(1, 1, 100), 3);
        Check.due(what + ": window", x.output(0, 0), 113);
        Check.due(what + ": pattern", x.output(1, 0), 1);
        Check.due(what + ": join, the left", x.output(2, 0), 12);
        Check.due(what + ": restore", x.restore(), true);
        Check.due(what + ": goes on", x.send(0, 1, 100), 2);
        Check.due(what + ": join, the right", x.output(2, 0), 6);
    }

    /** "(it stays kept)": whatever is done after keep() or restore(), each restore() brings it back whole. */
    private static void nothingReachesWhatIsKept() {
        for (int deed = 0; deed <= 9; deed++) {
            EventDesk x = three();
            x.keep();
            for (int round = 1; round <= 2; round++) {
                disturb(x, deed);
                Check.due("restore", x.restore(), true);
                isAsThree(x, "deed " + deed + ", round " + round);
            }
        }
    }

    private static void disturb(EventDesk x, int deed) {
        switch (deed) {
            case 0:
                x.send(1, 1, 9);
                break;
            case 1:
                x.advance(100);
                break;
            case 2:
                x.clear();
                x.send(3, 3, 3);
                break;
            case 3:
                x.remove(0);
                x.remove(1);
                x.remove(2);
                break;
            case 4:
                x.giving(0, 1000, 8, 3);
                x.giving(1, 1000, 8, 3);
                x.giving(2, 1000, 8, 3);
                break;
            case 5:
                for (int slot = 0; slot <= 5; slot++) {
                    Check.typesAre(x, 3);
                    x.window(slot, 3, 2, 0, true);
                }
                break;
            case 6:
                for (int slot = 0; slot <= 5; slot++) {
                    Check.typesAre(x, 3, 3, 3);
                    x.pattern(slot, 1, 0, false, false);
                }
                break;
            case 7:
                for (int slot = 0; slot <= 5; slot++) {
                    Check.typesAre(x, 3, 3);
                    x.join(slot, 1, 1);
                }
                break;
            case 8:
                for (int i = 0; i < 60; i++) {
                    x.send(i % 4, i % 3, i);
                }
                break;
            default:
                x.drop();
                break;
        }
    }

    /** "Keeps the state: .. outputs": the latest eight, after as many others. */
    private static void eightOutputsComeBack() {
        EventDesk x = new EventDesk();
        Check.always(x);
        x.window(0, 1, 1, 1, false);
        for (int i = 1; i <= 11; i++) {
            x.send(0, 0, i);
        }
        x.keep();
        for (int i = 1; i <= 9; i++) {
            x.send(0, 0, -i);
        }
        Check.due("restore", x.restore(), true);
        for (int k = 0; k <= 7; k++) {
            Check.due("output " + k, x.output(0, k), 11 - k);
        }
        Check.due("output 8", x.output(0, 8), 0);
        x.send(0, 0, 12);
        for (int k = 0; k <= 7; k++) {
            Check.due("one more: output " + k, x.output(0, k), 12 - k);
        }
    }

    /** "that was kept last": each keep() takes the place of the one before, after a restore() too. */
    private static void keptLast() {
        EventDesk x = sum();
        for (int i = 1; i <= 5; i++) {
            x.send(0, 0, 1);
            x.advance(10);
            x.keep();
            x.clear();
            Check.due("restore", x.restore(), true);
            Check.state(x, "keep " + i, i, 0, 10 * i, i);
            Check.due("sum", x.output(0, 0), i);
        }
        x.clear();
        x.keep();
        x.send(0, 0, 9);
        Check.due("restore", x.restore(), true);
        Check.state(x, "the empty one", 0, 0, 0, 0);
        Check.due("given", x.given(0, 0), 0);
    }

    /** A batch that is not full, and a rate that is on its way, are kept with the question. */
    private static void halvesComeBack() {
        EventDesk x = new EventDesk();
        Check.always(x);
        x.window(0, 3, 3, 1, false);
        Check.always(x);
        x.window(1, 1, 1, 1, false);
        x.giving(1, 0, 3, 4);
        x.send(0, 0, 1);
        x.send(0, 0, 2);
        x.keep();
        Check.due("third", x.send(0, 0, 4), 2);
        Check.due("fourth", x.send(0, 0, 8), 0);
        x.restore();
        Check.due("third again", x.send(0, 0, 16), 2);
        Check.due("batch", x.output(0, 0), 19);
        Check.due("each third", x.output(1, 0), 16);
        x.restore();
        x.clear();
        Check.sends(x, "from the beginning", new int[][] {{0, 0, 1}, {0, 0, 1}, {0, 0, 1}, {0, 0, 1}}, 0, 0, 2, 0);
    }

    /** "Answers how many events had happened": each number of them, sent or routed. */
    private static void clearAnswersEachNumber() {
        EventDesk x = new EventDesk();
        Check.typeIs(x, 0);
        x.window(0, 0, 0, 0, false);
        x.giving(0, L, 1, 1);
        for (int i = 0; i <= 8; i++) {
            for (int j = 0; j < i; j++) {
                x.send(j % 2, 0, 0);
            }
            int routed = (i + 1) / 2;
            Check.due("clear after " + i, x.clear(), i + routed);
            Check.state(x, "clear after " + i, 0, 0, 0, 0);
        }
    }

    /** "the questions stay, having seen nothing": of every view, and in the time that begins again. */
    private static void clearedViews() {
        for (int view = 0; view <= 5; view++) {
            EventDesk x = new EventDesk();
            Check.always(x);
            x.window(0, view, 3, 1, false);
            for (int i = 0; i < 4; i++) {
                x.send(0, i, 100);
                x.advance(1);
            }
            x.clear();
            Check.outputs(x, 0, "cleared view " + view,
                    new int[][] {{0, 0, 7, 1}, {0, 0, 8, 2}, {1, 0, 9, 4}}, view == 3 ? NONE : 1, view == 3 ? NONE : 3, 7);
        }
    }

    /** An empty slot stays empty, and a removed question does not come back by clear(). */
    private static void clearBringsNothingBack() {
        EventDesk x = sum();
        x.send(0, 0, 1);
        x.remove(0);
        Check.due("clear", x.clear(), 1);
        for (int slot = 0; slot <= 5; slot++) {
            Check.due("given", x.given(slot, 0), -1);
        }
        Check.due("send", x.send(0, 0, 1), 0);
        Check.due("restore", x.restore(), false);
    }

    /** Every setting of a question, as numbers: {sort, and what its method takes besides the slot}. */
    private static int[][] settings() {
        return new int[][] {
            {0, 0, 1, 1, 0}, {0, 1, 2, 1, 0}, {0, 1, 3, 1, 1}, {0, 2, 2, 1, 0}, {0, 2, 4, 5, 1}, {0, 3, 2, 1, 0}, {0, 3, 3, 1, 1},
            {0, 4, 1, 1, 0}, {0, 4, 1, 4, 1}, {0, 5, 2, 1, 0}, {0, 5, 3, 1, 1}, {0, 0, 1, 0, 1}, {0, 0, 1, 2, 0}, {0, 0, 1, 3, 1},
            {0, 0, 1, 4, 0}, {0, 0, 1, 5, 0},
            {1, 3, 4, 0, 0}, {1, 3, 2, 0, 1}, {1, 6, 4, 1, 0}, {1, 6, 0, 1, 1}, {1, 9, 3, 0, 0}, {1, 9, 1, 1, 1},
            {2, 1, 1, 0, 0}, {2, 1, 4, 0, 0}, {2, 4, 1, 0, 0}, {2, 3, 3, 0, 0}};
    }

    private static void setSetting(EventDesk x, int slot, int[] s) {
        if (s[0] == 0) {
            Check.condition(x, 3, 0, 3, 8);
            Check.due("window", x.window(slot, s[1], s[2], s[3], s[4] == 1), true);
        } else if (s[0] == 1) {
            Check.condition(x, 3, 0, 2, 8);
            Check.condition(x, 3, 0, 0, 9, 12);
            if (s[1] == 6) {
                Check.condition(x, 3, 0, 3, 8);
            }
            Check.due("pattern", x.pattern(slot, s[1], s[2], s[3] == 1, s[4] == 1), true);
        } else {
            Check.condition(x, 3, 0, 2, 8);
            Check.condition(x, 3, 0, 0, 9, 12);
            Check.due("join", x.join(slot, s[1], s[2]), true);
        }
    }

    /** Events of all types, for each the sent one's answer and the slot's outputs, from the time on that it is. */
    private static String told(EventDesk x, int slot, int events) {
        StringBuilder all = new StringBuilder();
        for (int i = 0; i < events; i++) {
            all.append(x.send(i * 5 % 4, i / 2 % 2, i * i % 11)).append(' ').append(x.output(slot, 0)).append(' ');
            all.append(x.given(slot, 0)).append(' ').append(x.given(slot, 1)).append(' ');
            all.append(x.advance(i % 3 == 2 ? 2 : 0)).append(';');
        }
        for (int what = 0; what <= 3; what++) {
            all.append(x.state(what)).append(' ');
        }
        return all.toString();
    }

    private static void sameTold(String what, String got, String want) {
        Check.due(what + ": " + got + ", due is " + want, got.equals(want), true);
    }

    /** "Keeps the state: questions, events, outputs, clock": taken back, it goes on as if nothing had been between. */
    private static void everySettingComesBack() {
        for (int[] setting : settings()) {
            for (int slot = 0; slot <= 5; slot += 5) {
                for (int before = 0; before <= 7; before++) {
                    EventDesk x = new EventDesk();
                    setSetting(x, slot, setting);
                    x.giving(slot, 0, 1 + before % 2, before % 3 == 0 ? 4 : 3);
                    told(x, slot, before);
                    x.keep();
                    String want = told(x, slot, 12);
                    x.clear();
                    setSetting(x, slot, settings()[before]);
                    told(x, slot, 9);
                    Check.due("restore", x.restore(), true);
                    sameTold("restored " + java.util.Arrays.toString(setting), told(x, slot, 12), want);
                    Check.due("restore", x.restore(), true);
                    sameTold("restored again " + java.util.Arrays.toString(setting), told(x, slot, 12), want);
                }
            }
        }
    }

    /** "the questions stay, having seen nothing": a cleared desk answers as one whose questions are new. */
    private static void everySettingIsCleared() {
        for (int[] setting : settings()) {
            for (int slot = 0; slot <= 5; slot += 5) {
                for (int before = 0; before <= 7; before++) {
                    EventDesk x = new EventDesk();
                    EventDesk y = new EventDesk();
                    x.send(0, 0, 0);
                    setSetting(x, slot, setting);
                    setSetting(y, slot, setting);
                    x.giving(slot, 0, 1 + before % 2, before % 3 == 0 ? 4 : 3);
                    y.giving(slot, 0, 1 + before % 2, before % 3 == 0 ? 4 : 3);
                    told(x, slot, before);
                    x.clear();
                    sameTold("cleared " + java.util.Arrays.toString(setting), told(x, slot, 12), told(y, slot, 12));
                }
            }
        }
    }
}
