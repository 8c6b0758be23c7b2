/** Promises 12 to 14 (keep, restore, clear). */
public final class KeepTest {
    private static final int L = Check.LOWEST;
    private static final long NONE = Check.NONE;

    public static void main(String[] args) {
        nothingKept();
        keptStateComesBack();
        keptStateStaysKept();
        laterKeepReplaces();
        programAndListAreNoPart();
        questionsComeBack();
        whatQuestionsSawComesBack();
        onceComesBack();
        breaksComeBack();
        lostComesBack();
        emptyStateCanBeKept();
        clearForgets();
        clearKeepsQuestions();
        clearedPatternsAndJoins();
        clearKeepsProgramAndKept();
        Check.finish();
    }

    private static EventDesk sum() {
        EventDesk x = new EventDesk();
        Check.always(x);
        x.window(0, 0, 0, 1, false);
        return x;
    }

    private static void nothingKept() {
        EventDesk x = sum();
        x.send(0, 0, 5);
        x.advance(3);
        Check.due("restore", x.restore(), false);
        Check.state(x, "as it was", 1, 0, 3, 1);
        Check.due("output", x.output(0, 0), 5);
    }

    private static void keptStateComesBack() {
        EventDesk x = sum();
        x.send(0, 0, 5);
        x.advance(3);
        x.keep();
        Check.state(x, "keep changes nothing", 1, 0, 3, 1);
        x.send(0, 0, 6);
        x.advance(4);
        x.send(0, 0, 7);
        Check.due("restore", x.restore(), true);
        Check.state(x, "as kept", 1, 0, 3, 1);
        Check.due("given", x.given(0, 0), 1);
        Check.due("counted", x.given(0, 1), 1);
        Check.due("output", x.output(0, 0), 5);
        Check.due("output before", x.output(0, 1), 0);
        Check.due("advance", x.advance(0), 3);
        x.send(0, 0, 1);
        Check.due("the sum goes on from there", x.output(0, 0), 6);
    }

    private static void keptStateStaysKept() {
        EventDesk x = sum();
        x.send(0, 0, 5);
        x.keep();
        for (int i = 1; i <= 3; i++) {
            x.send(0, 0, i);
            Check.due("sum", x.output(0, 0), 5 + i);
            Check.due("restore", x.restore(), true);
            Check.due("output", x.output(0, 0), 5);
            Check.due("happened", x.state(0), 1);
        }
    }

    private static void laterKeepReplaces() {
        EventDesk x = sum();
        x.keep();
        x.send(0, 0, 5);
        x.keep();
        x.send(0, 0, 6);
        Check.due("restore", x.restore(), true);
        Check.state(x, "the later one", 1, 0, 0, 1);
        Check.due("restore", x.restore(), true);
        Check.state(x, "still the later one", 1, 0, 0, 1);
    }

    private static void programAndListAreNoPart() {
        EventDesk x = new EventDesk();
        Check.typeIs(x, 1);
        Check.terms(x, 3, 0, 2);
        x.keep();
        Check.due("keep leaves them", x.drop(), 3);
        Check.due("restore", x.restore(), true);
        Check.due("restore does not bring them back", x.drop(), 0);
        Check.typesAre(x, 1, 2);
        Check.terms(x, 3);
        Check.due("restore", x.restore(), true);
        Check.due("nor does it take them away", x.drop(), 3);
        Check.typeIs(x, 1);
        Check.terms(x, 3, 0, 2);
        x.restore();
        Check.terms(x, 9);
        Check.due("window of the list", x.window(0, 0, 0, 0, false), true);
        Check.due("condition of the program", x.condition(), true);
        Check.due("window of it", x.window(1, 0, 0, 0, false), true);
        Check.sends(x, "1 and 2", new int[][] {{0, 0, 0}, {1, 0, 0}, {2, 0, 0}}, 0, 1, 1);
        Check.due("slot 0", x.given(0, 0), 1);
        Check.due("slot 1", x.given(1, 0), 1);
    }

    private static void questionsComeBack() {
        EventDesk x = sum();
        x.giving(0, 10, 2, 3);
        Check.typesAre(x, 0, 1);
        x.pattern(1, 5, 2, true, true);
        Check.typesAre(x, 0, 1);
        x.join(2, 3, 4);
        x.keep();
        x.giving(0, 0, 1, 4);
        x.remove(1);
        Check.always(x);
        x.window(2, 0, 0, 0, false);
        Check.always(x);
        x.window(3, 0, 0, 0, false);
        Check.due("restore", x.restore(), true);
        Check.due("slot 3 is empty again", x.given(3, 0), -1);
        Check.due("slot 1 is there again", x.given(1, 0), 0);
        Check.due("sum 9: not more than 10", x.send(0, 1, 9), 0);
        Check.due("sum 11: the first that counts", x.send(0, 2, 2), 0);
        // Sum 12 is given and routed (sum 24 counts, but is not given); pattern and join have one each.
        Check.due("sum 12, a match, a pair", x.send(1, 1, 1), 3);
        Check.due("the routed event", x.state(0), 4);
        Check.due("sum", x.output(0, 0), 12);
        Check.due("counted", x.given(0, 1), 3);
        Check.due("pattern", x.output(1, 0), 1);
        Check.due("join", x.output(2, 0), 9);
        x.send(1, 1, 0);
        Check.due("pattern, once", x.given(1, 0), 1);
        Check.due("join", x.given(2, 0), 2);
    }

    private static void whatQuestionsSawComesBack() {
        EventDesk x = sum();
        x.send(0, 0, 1);
        Check.always(x);
        x.window(1, 3, 3, 1, false);
        x.send(0, 0, 2);
        x.send(0, 0, 4);
        x.keep();
        x.clear();
        x.send(3, 9, 100);
        x.send(3, 9, 200);
        x.send(3, 9, 300);
        x.send(3, 9, 400);
        Check.due("restore", x.restore(), true);
        Check.due("the batch is full", x.send(0, 0, 8), 2);
        Check.due("sum", x.output(0, 0), 15);
        Check.due("batch", x.output(1, 0), 14);
        Check.due("restore", x.restore(), true);
        // The events' a, type and time are those of then, too.
        x.remove(0);
        x.remove(1);
        Check.typesAre(x, 0, 0);
        x.pattern(0, 5, 4, true, false);
        x.advance(10);
        x.send(0, 1, 0);
        x.advance(3);
        x.keep();
        x.clear();
        x.advance(90);
        x.send(3, 2, 0);
        x.send(3, 2, 0);
        x.send(3, 2, 0);
        x.send(3, 2, 0);
        x.restore();
        x.advance(1);
        Check.due("a match", x.send(0, 1, 0), 1);
        x.restore();
        x.advance(2);
        Check.due("too late", x.send(0, 1, 0), 0);
        x.restore();
        Check.due("another a", x.send(0, 2, 0), 0);
    }

    private static void onceComesBack() {
        EventDesk x = new EventDesk();
        Check.typesAre(x, 0, 1);
        x.pattern(0, 100, 2, false, true);
        x.send(0, 0, 0);
        x.keep();
        Check.due("a match", x.send(1, 0, 0), 1);
        Check.due("once", x.send(1, 0, 0), 0);
        x.restore();
        Check.due("it has not ended again", x.send(1, 0, 0), 1);
        x.keep();
        x.clear();
        x.send(0, 0, 0);
        x.restore();
        Check.due("it has ended", x.send(1, 0, 0), 0);
        x.restore();
        Check.sends(x, "a new first", new int[][] {{0, 0, 0}, {1, 0, 0}}, 0, 1);
        Check.due("of one", x.output(0, 0), 1);
    }

    private static void breaksComeBack() {
        EventDesk x = new EventDesk();
        Check.typesAre(x, 0, 1);
        x.pattern(0, 100, 2, false, false);
        x.send(0, 0, 0);
        x.send(2, 0, 0);
        x.keep();
        x.clear();
        x.send(3, 0, 0);
        x.send(3, 0, 0);
        x.restore();
        Check.due("the break still stands between", x.send(1, 0, 0), 0);
        x.clear();
        x.send(0, 0, 0);
        x.send(3, 0, 0);
        x.keep();
        x.clear();
        x.send(2, 0, 0);
        x.send(2, 0, 0);
        x.restore();
        Check.due("there was no break", x.send(1, 0, 0), 1);
    }

    private static void lostComesBack() {
        EventDesk x = sum();
        x.giving(0, L, 1, 0);
        x.keep();
        x.send(0, 0, 0);
        Check.due("lost", x.state(1), 1);
        x.restore();
        Check.state(x, "none was lost", 0, 0, 0, 0);
        x.send(0, 0, 0);
        x.keep();
        x.clear();
        x.restore();
        Check.state(x, "one was lost", 64, 1, 0, 64);
        Check.due("no more events", x.send(0, 0, 0), -1);
        Check.due("clear", x.clear(), 64);
    }

    private static void emptyStateCanBeKept() {
        EventDesk x = new EventDesk();
        x.keep();
        Check.always(x);
        x.window(0, 0, 0, 1, false);
        x.send(0, 0, 5);
        x.advance(5);
        Check.due("restore", x.restore(), true);
        Check.state(x, "empty", 0, 0, 0, 0);
        Check.due("no question", x.given(0, 0), -1);
        Check.due("no question, no output", x.output(0, 0), 0);
    }

    private static void clearForgets() {
        EventDesk x = new EventDesk();
        Check.always(x);
        x.window(0, 0, 0, 0, false);
        x.giving(0, L, 1, 0);
        Check.due("send", x.send(0, 0, 1), 64);
        x.advance(9);
        Check.due("clear", x.clear(), 64);
        Check.state(x, "all forgotten", 0, 0, 0, 0);
        Check.due("given", x.given(0, 0), 0);
        Check.due("counted", x.given(0, 1), 0);
        for (int k = 0; k < 8; k++) {
            Check.due("output", x.output(0, k), 0);
        }
        Check.due("advance", x.advance(2), 2);
        Check.due("clear again", x.clear(), 0);
        Check.due("the time is 0 again", x.state(2), 0);
    }

    private static void clearKeepsQuestions() {
        EventDesk x = sum();
        x.giving(0, 10, 2, 3);
        x.send(0, 0, 11);
        Check.due("counted", x.given(0, 1), 1);
        Check.due("clear", x.clear(), 1);
        Check.due("sum 11 counts as the first", x.send(0, 0, 11), 0);
        Check.due("sum 12 is given and routed", x.send(0, 0, 1), 1);
        Check.due("happened", x.state(0), 3);
        Check.due("given", x.given(0, 0), 1);
        Check.due("counted", x.given(0, 1), 3);
        Check.due("output", x.output(0, 0), 12);
        Check.due("none before it", x.output(0, 1), 0);
        // A question that was set after some events saw from there on; now it sees from the beginning.
        x = new EventDesk();
        x.send(0, 0, 1);
        x.send(0, 0, 1);
        Check.always(x);
        x.window(0, 0, 0, 1, false);
        x.clear();
        Check.outputs(x, 0, "from the beginning", new int[][] {{0, 0, 0, 1}, {0, 0, 0, 2}, {0, 0, 0, 4}}, 1, 3, 7);
    }

    private static void clearedPatternsAndJoins() {
        EventDesk x = new EventDesk();
        Check.typesAre(x, 0, 1);
        x.pattern(0, 100, 2, false, true);
        Check.typesAre(x, 0, 1);
        x.join(1, 5, 5);
        x.send(0, 0, 1);
        x.send(1, 0, 1);
        Check.due("clear", x.clear(), 2);
        Check.due("no first, no left", x.send(1, 0, 2), 0);
        Check.due("a right", x.send(0, 0, 4), 1);
        Check.due("a match and a pair", x.send(1, 0, 8), 2);
        Check.due("pattern", x.output(0, 0), 1);
        Check.due("join", x.output(1, 0), 4);
        x.clear();
        x.send(0, 0, 1);
        Check.outputs(x, 0, "not ended before", new int[][] {{0, 1, 0, 0}, {0, 1, 0, 0}}, 1, NONE);
    }

    private static void clearKeepsProgramAndKept() {
        EventDesk x = sum();
        x.send(0, 0, 5);
        x.advance(1);
        x.keep();
        Check.typesAre(x, 0, 1);
        Check.terms(x, 3);
        Check.due("clear", x.clear(), 1);
        Check.due("program and list stay", x.drop(), 3);
        Check.due("what is kept stays", x.restore(), true);
        Check.state(x, "as kept", 1, 0, 1, 1);
        Check.due("output", x.output(0, 0), 5);
    }
}
