/** Promises 2 to 4 (term, condition, drop) and what the terms do. */
public final class ConditionTest {
    private static final int L = Check.LOWEST;
    private static final int H = Check.HIGHEST;

    public static void main(String[] args) {
        whichTermsAreTaken();
        atMostTwelveTerms();
        whichProgramsAreConditions();
        atMostThreeConditions();
        refusedConditionChangesNothing();
        dropCountsTermsAndConditions();
        programAndListAreApart();
        termsOfTheEvent();
        termsOfTwo();
        termNot();
        anyValueButZeroMeets();
        deepestStack();
        wrappingArithmetic();
        restAtTheEnds();
        comparisonsAtTheEnds();
        termsOfZero();
        thirteenthTermOfEachSort();
        dropOfEachNumber();
        dropLeavesQuestions();
        anyValueMeetsInEachPlace();
        fullestDesk();
        timeOfTheEvent();
        Check.finish();
    }

    /** "false, and nothing changes, if op is not 0..13". */
    private static void whichTermsAreTaken() {
        EventDesk x = new EventDesk();
        int[] wrong = {-1, 14, 15, 100, L, H};
        for (int op : wrong) {
            Check.due("term " + op, x.term(op, 0), false);
        }
        Check.due("wrong terms are not appended", x.drop(), 0);
        for (int op = 0; op <= 13; op++) {
            Check.due("term " + op, x.term(op, op % 2 == 0 ? L : H), true);
            Check.due("one term", x.drop(), 1);
        }
    }

    /** "or there are 12". */
    private static void atMostTwelveTerms() {
        EventDesk x = new EventDesk();
        Check.terms(x, 0, 1);
        for (int i = 2; i <= 12; i++) {
            Check.due("term number " + i, x.term(12, 0), true);
        }
        Check.due("term number 13", x.term(12, 0), false);
        Check.due("term number 13", x.term(0, 5), false);
        Check.due("twelve terms are a condition", x.condition(), true);
        Check.due("window", x.window(0, 0, 0, 0, false), true);
        // Eleven times not: the 1 has become a 0.
        Check.due("send", x.send(0, 0, 0), 0);
        Check.due("the program is empty: term", x.term(1, 0), true);
    }

    private static void isCondition(boolean want, int... row) {
        EventDesk x = new EventDesk();
        Check.terms(x, row);
        Check.due("condition of " + java.util.Arrays.toString(row), x.condition(), want);
        int terms = 0;
        for (int i = 0; i < row.length; i++) {
            terms++;
            if (row[i] == 0) {
                i++;
            }
        }
        Check.due("drop after it", x.drop(), want ? 1 : terms);
    }

    /** "if it takes off more than there is somewhere, or does not leave just one value". */
    private static void whichProgramsAreConditions() {
        isCondition(false);
        for (int op = 1; op <= 4; op++) {
            isCondition(true, op);
        }
        isCondition(true, 0, 0);
        isCondition(false, 12);
        isCondition(true, 1, 12);
        isCondition(false, 1, 2);
        isCondition(false, 1, 2, 12);
        for (int op = 5; op <= 13; op++) {
            if (op != 12) {
                isCondition(false, op);
                isCondition(false, 1, op);
                isCondition(true, 1, 2, op);
                isCondition(false, 1, 2, 3, op);
                isCondition(true, 1, 2, 3, op, op);
                // It takes off too much in the middle, though the end would come out right.
                isCondition(false, 1, op, 2);
                isCondition(false, 1, op, 2, 3);
            }
        }
        isCondition(false, 12, 1);
        isCondition(false, 12, 0, 1, 5);
    }

    /** "the last of a list of at most 3", "or there are 3". */
    private static void atMostThreeConditions() {
        EventDesk x = new EventDesk();
        Check.typesAre(x, 0, 1, 2);
        Check.terms(x, 1);
        Check.due("fourth condition", x.condition(), false);
        Check.due("the program stays", x.drop(), 4);
        Check.due("all are gone", x.drop(), 0);
        Check.typesAre(x, 0, 1, 2);
        Check.terms(x, 3, 0, 3, 9);
        Check.due("fourth condition again", x.condition(), false);
        Check.due("pattern of the three", x.pattern(0, 10, 4, false, false), true);
        Check.due("now there is room", x.condition(), true);
        Check.due("window", x.window(1, 0, 0, 0, false), true);
        Check.sends(x, "three and one", new int[][] {{0, 0, 0}, {1, 0, 0}, {2, 0, 0}, {3, 0, 0}}, 0, 0, 1, 1);
    }

    /** "false, and nothing changes": the program can be gone on with. */
    private static void refusedConditionChangesNothing() {
        EventDesk x = new EventDesk();
        Check.terms(x, 3, 0, 2);
        Check.due("two values", x.condition(), false);
        Check.terms(x, 9);
        Check.due("now one value", x.condition(), true);
        Check.due("window", x.window(0, 0, 0, 0, false), true);
        Check.sends(x, "type 2", new int[][] {{0, 0, 0}, {1, 0, 0}, {2, 0, 0}, {3, 0, 0}}, 0, 0, 1, 0);
    }

    /** "Empties the program and the list; answers how many terms and conditions there were". */
    private static void dropCountsTermsAndConditions() {
        EventDesk x = new EventDesk();
        Check.condition(x, 1, 2, 5);
        Check.condition(x, 1);
        Check.terms(x, 1, 2, 5);
        Check.due("three terms, two conditions", x.drop(), 5);
        Check.due("nothing is left", x.drop(), 0);
        Check.due("no program", x.condition(), false);
        Check.due("no list", x.window(0, 0, 0, 0, false), false);
        Check.always(x);
        Check.due("one condition", x.window(0, 0, 0, 0, false), true);
        Check.due("the list went to the window", x.drop(), 0);
    }

    /** "with the conditions of the list, which is empty then": the program at work stays. */
    private static void programAndListAreApart() {
        EventDesk x = new EventDesk();
        Check.always(x);
        Check.terms(x, 3, 0, 1);
        Check.due("window takes the list alone", x.window(0, 0, 0, 0, false), true);
        Check.terms(x, 9);
        Check.due("the program went on", x.condition(), true);
        Check.due("window of type 1", x.window(1, 0, 0, 0, false), true);
        Check.sends(x, "both", new int[][] {{0, 0, 0}, {1, 0, 0}}, 1, 2);
    }

    /** Whether an event of type 2 with these a and b, at the time 9, meets the condition. */
    private static void meets(boolean want, int a, int b, int... row) {
        EventDesk x = new EventDesk();
        x.advance(9);
        Check.condition(x, row);
        Check.due("window", x.window(0, 0, 0, 0, false), true);
        String what = java.util.Arrays.toString(row) + " for a " + a + ", b " + b;
        Check.due(what, x.send(2, a, b), want ? 1 : 0);
    }

    /** Whether the program's value for an event is this one and no other. */
    private static void leaves(int value, int a, int b, int... row) {
        int[] longer = java.util.Arrays.copyOf(row, row.length + 3);
        longer[row.length] = 0;
        longer[row.length + 1] = value;
        longer[row.length + 2] = 9;
        meets(true, a, b, longer);
        longer[row.length + 1] = value + 1;
        meets(false, a, b, longer);
    }

    /** "0 -- the term's value   1 -- the event's a   2 -- its b   3 -- its type   4 -- its time". */
    private static void termsOfTheEvent() {
        leaves(-5, 0, 0, 0, -5);
        leaves(L, 0, 0, 0, L);
        leaves(H, 0, 0, 0, H);
        leaves(7, 7, 8, 1);
        leaves(8, 7, 8, 2);
        leaves(L, L, H, 1);
        leaves(H, L, H, 2);
        leaves(2, 7, 8, 3);
        leaves(9, 7, 8, 4);
    }

    /** "x y -- ..": which of the two is x, "all wrapping", and "0 if y is 0". */
    private static void termsOfTwo() {
        leaves(7, 3, 4, 1, 2, 5);
        leaves(L, H, 1, 1, 2, 5);
        leaves(-1, 3, 4, 1, 2, 6);
        leaves(1, 3, 4, 2, 1, 6);
        leaves(H, L, 1, 1, 2, 6);
        leaves(-12, 3, -4, 1, 2, 7);
        leaves(0, 65536, 65536, 1, 2, 7);
        leaves(L, L, -1, 1, 2, 7);
        leaves(1, 3, 4, 1, 2, 8);
        leaves(0, 4, 4, 1, 2, 8);
        leaves(0, 5, 4, 1, 2, 8);
        leaves(1, L, H, 1, 2, 8);
        leaves(0, H, L, 1, 2, 8);
        leaves(1, 4, 4, 1, 2, 9);
        leaves(0, 4, 5, 1, 2, 9);
        leaves(1, 4, -5, 1, 2, 10);
        leaves(1, 1, 2, 1, 2, 10);
        leaves(0, 0, 5, 1, 2, 10);
        leaves(0, 5, 0, 1, 2, 10);
        leaves(0, 0, 0, 1, 2, 10);
        leaves(1, 4, 5, 1, 2, 11);
        leaves(1, 0, -5, 1, 2, 11);
        leaves(1, -5, 0, 1, 2, 11);
        leaves(1, 5, -5, 1, 2, 11);
        leaves(0, 0, 0, 1, 2, 11);
        leaves(1, 7, 3, 1, 2, 13);
        leaves(-1, -7, 3, 1, 2, 13);
        leaves(1, 7, -3, 1, 2, 13);
        leaves(-1, -7, -3, 1, 2, 13);
        leaves(3, 3, 7, 1, 2, 13);
        leaves(0, 7, 0, 1, 2, 13);
        leaves(0, L, 0, 1, 2, 13);
        leaves(0, L, -1, 1, 2, 13);
        leaves(-8, L, 10, 1, 2, 13);
    }

    /** "12 x -- 1 if x is 0, else 0". */
    private static void termNot() {
        leaves(1, 0, 0, 1, 12);
        leaves(0, 1, 0, 1, 12);
        leaves(0, L, 0, 1, 12);
        leaves(1, 8, 0, 1, 12, 12);
        leaves(4, 4, 0, 1, 2, 12, 7);
    }

    /** "if the one value that is left is not 0". */
    private static void anyValueButZeroMeets() {
        meets(false, 0, 0, 1);
        meets(true, 1, 0, 1);
        meets(true, 2, 0, 1);
        meets(true, -1, 0, 1);
        meets(true, L, 0, 1);
    }

    /** "carried out in order on a stack": the deepest that twelve terms can make. */
    private static void deepestStack() {
        // 1 - (2 - (3 - (4 - a))) and b - (2 - (3 - (4 - a))).
        leaves(8, 10, 0, 0, 1, 0, 2, 0, 3, 0, 4, 1, 6, 6, 6, 6);
        leaves(18, 1, 20, 2, 0, 2, 0, 3, 0, 4, 1, 6, 6, 6, 6);
        // Twelve terms: not (1 - (2 - (3 - (4 - (5 - a))))), which is not (3 - a).
        meets(true, 3, 0, 0, 1, 0, 2, 0, 3, 0, 4, 0, 5, 1, 6, 6, 6, 6, 6, 12);
        meets(false, 4, 0, 0, 1, 0, 2, 0, 3, 0, 4, 0, 5, 1, 6, 6, 6, 6, 6, 12);
        isCondition(false, 1, 1, 1, 1, 1, 1, 1, 1, 1, 1, 1, 1);
    }

    /** "wrapping": at both ends of the ints. */
    private static void wrappingArithmetic() {
        leaves(-2, H, H, 1, 2, 5);
        leaves(0, L, L, 1, 2, 5);
        leaves(H, L, -1, 1, 2, 5);
        leaves(L, 0, L, 1, 2, 6);
        leaves(-1, H, L, 1, 2, 6);
        leaves(1, L, H, 1, 2, 6);
        leaves(L, H, -1, 1, 2, 6);
        leaves(1, H, H, 1, 2, 7);
        leaves(0, L, L, 1, 2, 7);
        leaves(0, L, 2, 1, 2, 7);
        leaves(-2, H, 2, 1, 2, 7);
        leaves(L, H, L, 1, 2, 7);
        leaves(-1640531535, -1640531535, 1, 1, 2, 7);
        leaves(1073807361, 32769, 32769, 1, 2, 7);
    }

    /** "the rest of x / y (its sign that of x), 0 if y is 0". */
    private static void restAtTheEnds() {
        leaves(-1, L, H, 1, 2, 13);
        leaves(H, H, L, 1, 2, 13);
        leaves(0, L, L, 1, 2, 13);
        leaves(0, H, H, 1, 2, 13);
        leaves(0, L, 1, 1, 2, 13);
        leaves(0, H, -1, 1, 2, 13);
        leaves(0, L, 2, 1, 2, 13);
        leaves(1, H, 2, 1, 2, 13);
        leaves(1, H, -2, 1, 2, 13);
        leaves(-2, -2, L, 1, 2, 13);
        leaves(0, 0, 0, 1, 2, 13);
        leaves(0, 0, -5, 1, 2, 13);
        leaves(0, H, 0, 1, 2, 13);
        leaves(0, -1, 0, 1, 2, 13);
        leaves(0, 6, 3, 1, 2, 13);
        leaves(0, -6, 3, 1, 2, 13);
    }

    /** "8 x y -- 1 if x < y", "9 x y -- 1 if x = y": beside the edge, and where x - y would wrap. */
    private static void comparisonsAtTheEnds() {
        leaves(0, L, L, 1, 2, 8);
        leaves(0, H, H, 1, 2, 8);
        leaves(1, L, L + 1, 1, 2, 8);
        leaves(1, H - 1, H, 1, 2, 8);
        leaves(0, H, H - 1, 1, 2, 8);
        leaves(1, L, 1, 1, 2, 8);
        leaves(0, 1, L, 1, 2, 8);
        leaves(1, -1, 0, 1, 2, 8);
        leaves(0, 0, -1, 1, 2, 8);
        leaves(1, L, L, 1, 2, 9);
        leaves(1, H, H, 1, 2, 9);
        leaves(0, L, H, 1, 2, 9);
        leaves(0, 0, L, 1, 2, 9);
        leaves(0, 1, -1, 1, 2, 9);
        leaves(1, L, L, 1, 2, 10);
        leaves(1, L, H, 1, 2, 10);
        leaves(1, L, L, 1, 2, 11);
        leaves(1, 0, L, 1, 2, 11);
        leaves(0, H, 0, 1, 12);
        leaves(0, -1, 0, 1, 12);
    }

    /** "happen at the time of the clock (.. 0 at first)", "3 -- its type": the lowest of each is 0. */
    private static void termsOfZero() {
        EventDesk x = new EventDesk();
        Check.condition(x, 4);
        x.window(0, 0, 0, 0, false);
        Check.condition(x, 3);
        x.window(1, 0, 0, 0, false);
        Check.due("time 0, type 0", x.send(0, 9, 9), 0);
        Check.due("time 0, type 3", x.send(3, 9, 9), 1);
        x.advance(1);
        Check.due("time 1, type 0", x.send(0, 9, 9), 1);
        Check.due("time 1, type 1", x.send(1, 9, 9), 2);
    }

    /** "false .. if .. there are 12": whichever term it is, and the twelve are what they were. */
    private static void thirteenthTermOfEachSort() {
        EventDesk x = new EventDesk();
        // The type less 1, four times plus 0, and at last not.
        Check.terms(x, 3, 0, 1, 6);
        for (int i = 4; i <= 12; i++) {
            Check.due("term number " + i, x.term(i == 12 ? 12 : i % 2 == 0 ? 0 : 5, 0), true);
        }
        for (int op = -1; op <= 14; op++) {
            Check.due("thirteenth term " + op, x.term(op, 1), false);
        }
        Check.due("a condition of twelve", x.condition(), true);
        Check.due("window", x.window(0, 0, 0, 0, false), true);
        Check.sends(x, "only type 1", new int[][] {{0, 0, 0}, {1, 0, 0}, {2, 0, 0}, {3, 0, 0}}, 0, 1, 0, 0);
    }

    /** "answers how many terms and conditions there were": from none to all that there can be. */
    private static void dropOfEachNumber() {
        for (int conditions = 0; conditions <= 3; conditions++) {
            for (int terms = 0; terms <= 12; terms++) {
                EventDesk x = new EventDesk();
                for (int i = 0; i < conditions; i++) {
                    Check.condition(x, 1, 2, 5);
                }
                for (int i = 0; i < terms; i++) {
                    Check.due("term", x.term(i % 14, 0), true);
                }
                Check.due("drop of " + terms + " and " + conditions, x.drop(), terms + conditions);
                Check.due("again", x.drop(), 0);
                Check.due("no program is left", x.condition(), false);
                for (int i = 1; i <= 3; i++) {
                    Check.always(x);
                }
                Check.due("there was room for three", x.drop(), 3);
                for (int i = 1; i <= 12; i++) {
                    Check.due("there is room for twelve", x.term(1, 0), true);
                }
            }
        }
    }

    /** drop() empties the program and the list, and nothing else. */
    private static void dropLeavesQuestions() {
        EventDesk x = new EventDesk();
        Check.typeIs(x, 1);
        x.window(0, 0, 0, 1, false);
        x.send(1, 0, 5);
        x.advance(4);
        x.keep();
        Check.typesAre(x, 2, 3);
        Check.terms(x, 1);
        Check.due("drop", x.drop(), 3);
        Check.state(x, "after drop", 1, 0, 4, 1);
        Check.due("sum", x.send(1, 0, 6), 1);
        Check.due("sum", x.output(0, 0), 11);
        Check.due("restore", x.restore(), true);
        Check.due("output", x.output(0, 0), 5);
    }

    /** "an event MEETS it if the one value that is left is not 0": in the place of each condition. */
    private static void anyValueMeetsInEachPlace() {
        for (int value : new int[] {L, -1, 1, 2, H, 0}) {
            int met = value == 0 ? 0 : 1;
            EventDesk x = new EventDesk();
            Check.condition(x, 0, value);
            Check.condition(x, 0, value);
            Check.condition(x, 0, value);
            x.pattern(0, 9, 4, false, false);
            Check.condition(x, 0, value);
            Check.condition(x, 0, value);
            x.join(1, 9, 9);
            Check.sends(x, "value " + value, new int[][] {{0, 0, 0}, {0, 0, 0}, {0, 0, 0}}, 0, met, 2 * met);
        }
    }

    /** "one to twelve terms", "at most 3", "slots 0..5": as many as there can be, each as it was built. */
    private static void fullestDesk() {
        EventDesk x = new EventDesk();
        for (int slot = 0; slot <= 5; slot++) {
            for (int which = 0; which <= 2; which++) {
                // Twelve terms: a = 100 slot + which, with a's terms added and taken off again.
                Check.condition(x, 1, 2, 5, 2, 6, 0, 100 * slot, 6, 0, which, 9, 12, 12);
            }
            Check.due("pattern " + slot, x.pattern(slot, 9, 4, false, false), true);
        }
        x.keep();
        for (int round = 0; round <= 1; round++) {
            for (int slot = 0; slot <= 5; slot++) {
                for (int which = 0; which <= 2; which++) {
                    Check.due("slot " + slot + ", condition " + which, x.send(0, 100 * slot + which, 50), which == 2 ? 1 : 0);
                }
                Check.due("given " + slot, x.given(slot, 0), 1);
                Check.due("none of them", x.send(0, 100 * slot + 3, 50), 0);
            }
            Check.due("restore", x.restore(), true);
        }
    }

    /** "4 -- its time": that of when it happened, though the clock goes on. */
    private static void timeOfTheEvent() {
        EventDesk x = new EventDesk();
        Check.condition(x, 4, 0, 5, 8);
        x.window(0, 0, 0, 1, false);
        Check.condition(x, 4, 0, 5, 8, 12);
        x.window(1, 0, 0, 1, false);
        Check.due("at 0", x.send(0, 0, 1), 1);
        x.advance(4);
        Check.due("at 4", x.send(0, 0, 2), 1);
        Check.due("before 5", x.output(0, 0), 3);
        x.advance(1);
        Check.due("at 5", x.send(0, 0, 4), 1);
        Check.due("before 5", x.given(0, 0), 2);
        Check.due("from 5 on", x.output(1, 0), 4);
    }
}
