import java.util.Arrays;

/** What the tests share: comparing answers, and building conditions from rows of terms. */
final class Check {
    static final int LOWEST = Integer.MIN_VALUE;
    static final int HIGHEST = Integer.MAX_VALUE;

    private static int wrong = 0;
    private static int looked = 0;

    private Check() {
    }

    static void due(String what, long got, long want) {
        looked++;
        if (got != want) {
            wrong++;
            System.out.println(what + " answered " + got + ", due is " + want);
        }
    }

    static void due(String what, boolean got, boolean want) {
        due(what, got ? 1L : 0L, want ? 1L : 0L);
    }

    /** The end of every test's main method. */
    static void finish() {
        if (looked == 0 || wrong > 0) {
            System.out.println(wrong + " of " + looked + " answers are not as due");
            System.exit(1);
        }
    }

    /** A term that puts a value on is written as two numbers, 0 and the value; the others as one. */
    static void terms(EventDesk x, int... row) {
        for (int i = 0; i < row.length; i++) {
            boolean hasValue = row[i] == 0;
            due("term of " + Arrays.toString(row), x.term(row[i], hasValue ? row[i + 1] : 77), true);
            if (hasValue) {
                i++;
            }
        }
    }

    static void condition(EventDesk x, int... row) {
        terms(x, row);
        due("condition " + Arrays.toString(row), x.condition(), true);
    }

    static void always(EventDesk x) {
        condition(x, 0, 1);
    }

    static void typeIs(EventDesk x, int type) {
        condition(x, 3, 0, type, 9);
    }

    /** Always (type 4 stands for any) or the types, one condition each. */
    static void typesAre(EventDesk x, int... types) {
        for (int type : types) {
            if (type == 4) {
                always(x);
            } else {
                typeIs(x, type);
            }
        }
    }

    /** The numbers of given outputs that sending these events one after another answers. */
    static void sends(EventDesk x, String what, int[][] events, int... answers) {
        for (int i = 0; i < events.length; i++) {
            int[] e = events[i];
            due(what + ": send " + i, x.send(e[0], e[1], e[2]), answers[i]);
        }
    }

    /** Events of one row {time to go on, type, a, b}, and the slot's output after each; NONE if none was given. */
    static final long NONE = 1L << 40;

    static void outputs(EventDesk x, int slot, String what, int[][] events, long... want) {
        for (int i = 0; i < events.length; i++) {
            int[] e = events[i];
            x.advance(e[0]);
            int before = x.given(slot, 0);
            x.send(e[1], e[2], e[3]);
            long got = x.given(slot, 0) == before ? NONE : x.output(slot, 0);
            due(what + ": output for event " + i, got, want[i]);
        }
    }

    static void state(EventDesk x, String what, int happened, int lost, int time, int given) {
        due(what + ": state(0)", x.state(0), happened);
        due(what + ": state(1)", x.state(1), lost);
        due(what + ": state(2)", x.state(2), time);
        due(what + ": state(3)", x.state(3), given);
    }
}
