/** Promises 2 to 4 (term, condition, drop) and what the terms do. */
public final class ConditionTest {
    private static final int L = Check.LOWEST;
    private static final int H = Check.HIGHEST;

    public static void main(String[] args) {
        whichTermsAreTaken();
        atMostTwelveTerms();
        whichProgramsAreConditions();
        atMostThreeConditions();
        refusedConditionChangesNothing();
        dropCountsTermsAndConditions();
        programAndListAreApart();
        termsOfTheEvent();
        termsOfTwo();
        termNot();
        anyValueButZeroMeets();
        deepestStack();
        Check.finish();
    }

    private static void whichTermsAreTaken() {
        EventDesk x = new EventDesk();
        int[] wrong = {-1, 14, 15, 100, L, H};
        for (int op : wrong) {
            Check.due("term " + op, x.term(op, 0), false);
        }
        Check.due("wrong terms are not appended", x.drop(), 0);
        for (int op = 0; op <= 13; op++) {
            Check.due("term " + op, x.term(op, op % 2 == 0 ? L : H), true);
            Check.due("one term", x.drop(), 1);
        }
    }

    private static void atMostTwelveTerms() {
        EventDesk x = new EventDesk();
        Check.terms(x, 0, 1);
        for (int i = 2; i <= 12; i++) {
            Check.due("term number " + i, x.term(12, 0), true);
        }
        Check.due("term number 13", x.term(12, 0), false);
        Check.due("term number 13", x.term(0, 5), false);
        Check.due("twelve terms are a condition", x.condition(), true);
        Check.due("window", x.window(0, 0, 0, 0, false), true);
        // Eleven times not: the 1 has become a 0.
        Check.due("send", x.send(0, 0, 0), 0);
        Check.due("the program is empty: term", x.term(1, 0), true);
    }

    private static void isCondition(boolean want, int... row) {
        EventDesk x = new EventDesk();
        Check.terms(x, row);
        Check.due("condition of " + java.util.Arrays.toString(row), x.condition(), want);
        int terms = 0;
        for (int i = 0; i < row.length; i++) {
            terms++;
            if (row[i] == 0) {
                i++;
            }
        }
        Check.due("drop after it", x.drop(), want ? 1 : terms);
    }

    private static void whichProgramsAreConditions() {
        isCondition(false);
        for (int op = 1; op <= 4; op++) {
            isCondition(true, op);
        }
        isCondition(true, 0, 0);
        isCondition(false, 12);
        isCondition(true, 1, 12);
        isCondition(false, 1, 2);
        isCondition(false, 1, 2, 12);
        for (int op = 5; op <= 13; op++) {
            if (op != 12) {
                isCondition(false, op);
                isCondition(false, 1, op);
                isCondition(true, 1, 2, op);
                isCondition(false, 1, 2, 3, op);
                isCondition(true, 1, 2, 3, op, op);
                // It takes off too much in the middle, though the end would come out right.
                isCondition(false, 1, op, 2);
                isCondition(false, 1, op, 2, 3);
            }
        }
        isCondition(false, 12, 1);
        isCondition(false, 12, 0, 1, 5);
    }

    private static void atMostThreeConditions() {
        EventDesk x = new EventDesk();
        Check.typesAre(x, 0, 1, 2);
        Check.terms(x, 1);
        Check.due("fourth condition", x.condition(), false);
        Check.due("the program stays", x.drop(), 4);
        Check.due("all are gone", x.drop(), 0);
        Check.typesAre(x, 0, 1, 2);
        Check.terms(x, 3, 0, 3, 9);
        Check.due("fourth condition again", x.condition(), false);
        Check.due("pattern of the three", x.pattern(0, 10, 4, false, false), true);
        Check.due("now there is room", x.condition(), true);
        Check.due("window", x.window(1, 0, 0, 0, false), true);
        Check.sends(x, "three and one", new int[][] {{0, 0, 0}, {1, 0, 0}, {2, 0, 0}, {3, 0, 0}}, 0, 0, 1, 1);
    }

    private static void refusedConditionChangesNothing() {
        EventDesk x = new EventDesk();
        Check.terms(x, 3, 0, 2);
        Check.due("two values", x.condition(), false);
        Check.terms(x, 9);
        Check.due("now one value", x.condition(), true);
        Check.due("window", x.window(0, 0, 0, 0, false), true);
        Check.sends(x, "type 2", new int[][] {{0, 0, 0}, {1, 0, 0}, {2, 0, 0}, {3, 0, 0}}, 0, 0, 1, 0);
    }

    private static void dropCountsTermsAndConditions() {
        EventDesk x = new EventDesk();
        Check.condition(x, 1, 2, 5);
        Check.condition(x, 1);
        Check.terms(x, 1, 2, 5);
        Check.due("three terms, two conditions", x.drop(), 5);
        Check.due("nothing is left", x.drop(), 0);
        Check.due("no program", x.condition(), false);
        Check.due("no list", x.window(0, 0, 0, 0, false), false);
        Check.always(x);
        Check.due("one condition", x.window(0, 0, 0, 0, false), true);
        Check.due("the list went to the window", x.drop(), 0);
    }

    private static void programAndListAreApart() {
        EventDesk x = new EventDesk();
        Check.always(x);
        Check.terms(x, 3, 0, 1);
        Check.due("window takes the list alone", x.window(0, 0, 0, 0, false), true);
        Check.terms(x, 9);
        Check.due("the program went on", x.condition(), true);
        Check.due("window of type 1", x.window(1, 0, 0, 0, false), true);
        Check.sends(x, "both", new int[][] {{0, 0, 0}, {1, 0, 0}}, 1, 2);
    }

    /** Whether an event of type 2 with these a and b, at the time 9, meets the condition. */
    private static void meets(boolean want, int a, int b, int... row) {
        EventDesk x = new EventDesk();
        x.advance(9);
        Check.condition(x, row);
        Check.due("window", x.window(0, 0, 0, 0, false), true);
        String what = java.util.Arrays.toString(row) + " for a " + a + ", b " + b;
        Check.due(what, x.send(2, a, b), want ? 1 : 0);
    }

    /** Whether the program's value for an event is this one and no other. */
    private static void leaves(int value, int a, int b, int... row) {
        int[] longer = java.util.Arrays.copyOf(row, row.length + 3);
        longer[row.length] = 0;
        longer[row.length + 1] = value;
        longer[row.length + 2] = 9;
        meets(true, a, b, longer);
        longer[row.length + 1] = value + 1;
        meets(false, a, b, longer);
    }

    private static void termsOfTheEvent() {
        leaves(-5, 0, 0, 0, -5);
        leaves(L, 0, 0, 0, L);
        leaves(H, 0, 0, 0, H);
        leaves(7, 7, 8, 1);
        leaves(8, 7, 8, 2);
        leaves(L, L, H, 1);
        leaves(H, L, H, 2);
        leaves(2, 7, 8, 3);
        leaves(9, 7, 8, 4);
    }

    private static void termsOfTwo() {
        leaves(7, 3, 4, 1, 2, 5);
        leaves(L, H, 1, 1, 2, 5);
        leaves(-1, 3, 4, 1, 2, 6);
        leaves(1, 3, 4, 2, 1, 6);
        leaves(H, L, 1, 1, 2, 6);
        leaves(-12, 3, -4, 1, 2, 7);
        leaves(0, 65536, 65536, 1, 2, 7);
        leaves(L, L, -1, 1, 2, 7);
        leaves(1, 3, 4, 1, 2, 8);
        leaves(0, 4, 4, 1, 2, 8);
        leaves(0, 5, 4, 1, 2, 8);
        leaves(1, L, H, 1, 2, 8);
        leaves(0, H, L, 1, 2, 8);
        leaves(1, 4, 4, 1, 2, 9);
        leaves(0, 4, 5, 1, 2, 9);
        leaves(1, 4, -5, 1, 2, 10);
        leaves(1, 1, 2, 1, 2, 10);
        leaves(0, 0, 5, 1, 2, 10);
        leaves(0, 5, 0, 1, 2, 10);
        leaves(0, 0, 0, 1, 2, 10);
        leaves(1, 4, 5, 1, 2, 11);
        leaves(1, 0, -5, 1, 2, 11);
        leaves(1, -5, 0, 1, 2, 11);
        leaves(1, 5, -5, 1, 2, 11);
        leaves(0, 0, 0, 1, 2, 11);
        leaves(1, 7, 3, 1, 2, 13);
        leaves(-1, -7, 3, 1, 2, 13);
        leaves(1, 7, -3, 1, 2, 13);
        leaves(-1, -7, -3, 1, 2, 13);
        leaves(3, 3, 7, 1, 2, 13);
        leaves(0, 7, 0, 1, 2, 13);
        leaves(0, L, 0, 1, 2, 13);
        leaves(0, L, -1, 1, 2, 13);
        leaves(-8, L, 10, 1, 2, 13);
    }

    private static void termNot() {
        leaves(1, 0, 0, 1, 12);
        leaves(0, 1, 0, 1, 12);
        leaves(0, L, 0, 1, 12);
        leaves(1, 8, 0, 1, 12, 12);
        leaves(4, 4, 0, 1, 2, 12, 7);
    }

    private static void anyValueButZeroMeets() {
        meets(false, 0, 0, 1);
        meets(true, 1, 0, 1);
        meets(true, 2, 0, 1);
        meets(true, -1, 0, 1);
        meets(true, L, 0, 1);
    }

    private static void deepestStack() {
        // 1 - (2 - (3 - (4 - a))) and b - (2 - (3 - (4 - a))).
        leaves(8, 10, 0, 0, 1, 0, 2, 0, 3, 0, 4, 1, 6, 6, 6, 6);
        leaves(18, 1, 20, 2, 0, 2, 0, 3, 0, 4, 1, 6, 6, 6, 6);
        // Twelve terms: not (1 - (2 - (3 - (4 - (5 - a))))), which is not (3 - a).
        meets(true, 3, 0, 0, 1, 0, 2, 0, 3, 0, 4, 0, 5, 1, 6, 6, 6, 6, 6, 12);
        meets(false, 4, 0, 0, 1, 0, 2, 0, 3, 0, 4, 0, 5, 1, 6, 6, 6, 6, 6, 12);
        isCondition(false, 1, 1, 1, 1, 1, 1, 1, 1, 1, 1, 1, 1);
    }
}
