import static java.util.stream.IntStream.of;

import java.util.function.Supplier;

/** Every call that the document refuses: its answer, and that nothing has changed afterwards. */
public final class RefusedTest {
    private static final int L = Check.LOWEST;
    private static final int H = Check.HIGHEST;
    private static final int[] OTHER_SLOTS = {L, -1, 6, 7, H};

    public static void main(String[] args) {
        terms();
        conditions();
        windows();
        patterns();
        joins();
        listsOfTheWrongLength();
        givings();
        removes();
        sends();
        advances();
        restores();
        looks();
        Check.finish();
    }

    /** Questions of every sort in the slots 0 to 4, some of them routed, and events that they saw. */
    private static EventDesk asked() {
        EventDesk x = new EventDesk();
        Check.typeIs(x, 0);
        x.window(0, 1, 3, 1, false);
        x.giving(0, 2, 2, 3);
        Check.typesAre(x, 0, 1);
        x.pattern(1, 20, 2, false, true);
        Check.typesAre(x, 0, 1);
        x.join(2, 3, 2);
        x.giving(2, -5, 1, 4);
        Check.always(x);
        x.window(3, 3, 2, 5, true);
        Check.typesAre(x, 4, 4, 1);
        x.pattern(4, 1000, 3, true, false);
        x.giving(4, 0, 3, 4);
        x.send(0, 1, 5);
        x.send(1, 1, 6);
        x.advance(3);
        x.send(0, 1, 7);
        return x;
    }

    private static void work(EventDesk x, int conditions, int... program) {
        for (int i = 0; i < conditions; i++) {
            Check.typeIs(x, i);
        }
        Check.terms(x, program);
    }

    /** With a kept state that is not the present one, a list, and a program that leaves two values. */
    private static Supplier<EventDesk> busy(int conditions) {
        return () -> {
            EventDesk x = asked();
            x.keep();
            x.send(1, 1, 8);
            x.send(0, 2, 9);
            x.advance(2);
            work(x, conditions, 3, 0, 2);
            return x;
        };
    }

    /** 64 events have happened and some were lost; the program and the list are full. */
    private static EventDesk full() {
        EventDesk x = asked();
        x.keep();
        Check.always(x);
        x.window(5, 0, 0, 0, false);
        x.giving(5, 0, 1, 1);
        x.send(2, 1, 1);
        Check.due("full", x.state(0), 64);
        Check.due("some were lost", x.state(1) > 0, true);
        work(x, 3, 1, 12, 12, 12, 12, 12, 12, 12, 12, 12, 12, 12);
        return x;
    }

    private static Supplier<EventDesk> withProgram(int conditions, int... program) {
        return () -> {
            EventDesk x = asked();
            work(x, conditions, program);
            return x;
        };
    }

    /** Promise 2: "false, and nothing changes, if op is not 0..13, or there are 12". */
    private static void terms() {
        for (int op : new int[] {L, -1, 14, 15, H}) {
            Twins.refused("term(" + op + ", 5)", EventDesk::new, 0, x -> Twins.asked(x.term(op, 5)));
            Twins.refused("term(" + op + ", 5)", busy(1), 0, x -> Twins.asked(x.term(op, 5)));
        }
        for (int op = -1; op <= 14; op++) {
            int thirteenth = op;
            Twins.refused("thirteenth term(" + op + ", 5)", RefusedTest::full, 0, x -> Twins.asked(x.term(thirteenth, 5)));
        }
    }

    /** Promise 3: "takes off more than there is somewhere, or does not leave just one value, or there are 3". */
    private static void conditions() {
        int[][] programs = {
            {}, {5}, {12}, {1, 5}, {1, 13, 2}, {12, 1}, {1, 2}, {1, 2, 3, 5}, {0, 7, 1, 2, 3, 4, 1},
            {1, 2, 3, 4, 1, 2, 3, 4, 1, 2, 3, 4}, {1, 12, 12, 12, 12, 12, 12, 12, 12, 12, 12, 7}};
        for (int[] program : programs) {
            for (int conditions = 0; conditions <= 3; conditions++) {
                String what = "condition() of " + of(program).boxed().toList() + ", list of " + conditions;
                Twins.refused(what, withProgram(conditions, program), 0, x -> Twins.asked(x.condition()));
            }
        }
        Twins.refused("condition() of nothing", EventDesk::new, 0, x -> Twins.asked(x.condition()));
        Twins.refused("condition() of two values", busy(2), 0, x -> Twins.asked(x.condition()));
        Twins.refused("fourth condition()", withProgram(3, 1, 2, 8), 0, x -> Twins.asked(x.condition()));
        Twins.refused("fourth condition()", RefusedTest::full, 0, x -> Twins.asked(x.condition()));
    }

    private static void window(int slot, int view, int n, int total) {
        String what = "window(" + slot + ", " + view + ", " + n + ", " + total + ", true)";
        Twins.refused(what, busy(1), 0, x -> Twins.asked(x.window(slot, view, n, total, true)));
    }

    /** Promise 5: each bound of each argument, in a slot with a question and in one without. */
    private static void windows() {
        for (int slot : OTHER_SLOTS) {
            window(slot, 0, 1, 0);
        }
        for (int slot : new int[] {0, 5}) {
            for (int wrong : new int[] {L, -1, 6, 7, H}) {
                window(slot, wrong, 1, 0);
                window(slot, 1, 1, wrong);
                // Where n is not looked at, the total still is.
                window(slot, 0, 1, wrong);
                window(slot, 4, 0, wrong);
            }
            for (int n : new int[] {L, -1, 0, 17, 100, H}) {
                window(slot, 1, n, 0);
                window(slot, 3, n, 0);
            }
            for (int n : new int[] {L, -1, 0, 101, H}) {
                window(slot, 2, n, 0);
                window(slot, 5, n, 0);
            }
        }
    }

    private static void pattern(int slot, int n, int stop) {
        String what = "pattern(" + slot + ", " + n + ", " + stop + ", true, true)";
        for (int conditions = 2; conditions <= 3; conditions++) {
            Twins.refused(what, busy(conditions), 0, x -> Twins.asked(x.pattern(slot, n, stop, true, true)));
        }
    }

    /** Promise 6, likewise. */
    private static void patterns() {
        for (int slot : OTHER_SLOTS) {
            pattern(slot, 1, 4);
        }
        for (int slot : new int[] {1, 5}) {
            for (int n : new int[] {L, -1, 0, 1001, H}) {
                pattern(slot, n, 4);
            }
            for (int stop : new int[] {L, -1, 5, 6, H}) {
                pattern(slot, 1, stop);
            }
        }
    }

    private static void join(int slot, int n, int m) {
        String what = "join(" + slot + ", " + n + ", " + m + ")";
        Twins.refused(what, busy(2), 0, x -> Twins.asked(x.join(slot, n, m)));
    }

    /** Promise 7, likewise. */
    private static void joins() {
        for (int slot : OTHER_SLOTS) {
            join(slot, 1, 1);
        }
        for (int slot : new int[] {2, 5}) {
            for (int wrong : new int[] {L, -1, 0, 17, H}) {
                join(slot, wrong, 1);
                join(slot, 16, wrong);
            }
        }
    }

    /** "there isn't just one condition", "there are not 2 or 3 conditions", "there are not just 2 conditions". */
    private static void listsOfTheWrongLength() {
        for (int slot : new int[] {0, 1, 2, 5}) {
            for (int conditions = 0; conditions <= 3; conditions++) {
                Supplier<EventDesk> making = busy(conditions);
                String list = ", list of " + conditions;
                if (conditions != 1) {
                    Twins.refused("window in " + slot + list, making, 0, x -> Twins.asked(x.window(slot, 0, 1, 0, false)));
                }
                if (conditions < 2) {
                    Twins.refused("pattern in " + slot + list, making, 0, x -> Twins.asked(x.pattern(slot, 9, 4, false, false)));
                }
                if (conditions != 2) {
                    Twins.refused("join in " + slot + list, making, 0, x -> Twins.asked(x.join(slot, 1, 1)));
                }
            }
        }
    }

    private static void giving(int slot, int least, int rate, int route) {
        String what = "giving(" + slot + ", " + least + ", " + rate + ", " + route + ")";
        Twins.refused(what, busy(1), 0, x -> Twins.asked(x.giving(slot, least, rate, route)));
    }

    /** Promise 8: "if there is none in the slot, rate is not 1..8, or route not 0..4". */
    private static void givings() {
        for (int slot : OTHER_SLOTS) {
            giving(slot, 0, 1, 4);
        }
        giving(5, 0, 1, 4);
        for (int slot = 0; slot <= 5; slot++) {
            for (int wrong : new int[] {L, -1, 0, 9, 10, H}) {
                giving(slot, H, wrong, 4);
                giving(slot, L, wrong, 0);
            }
            for (int wrong : new int[] {L, -1, 5, 6, H}) {
                giving(slot, H, 1, wrong);
                giving(slot, L, 7, wrong);
            }
        }
        Twins.refused("giving of a new desk", EventDesk::new, 0, x -> Twins.asked(x.giving(0, 0, 1, 4)));
    }

    /** Promise 9: "false if there is none". */
    private static void removes() {
        for (int slot : OTHER_SLOTS) {
            Twins.refused("remove(" + slot + ")", busy(1), 0, x -> Twins.asked(x.remove(slot)));
        }
        Twins.refused("remove(5)", busy(1), 0, x -> Twins.asked(x.remove(5)));
        for (int slot = 0; slot <= 5; slot++) {
            int empty = slot;
            Twins.refused("remove of a new desk", EventDesk::new, 0, x -> Twins.asked(x.remove(empty)));
        }
    }

    /** Promise 10: "-1, and nothing changes, if type is not 0..3 or 64 events have happened". */
    private static void sends() {
        for (int type : new int[] {L, -1, 4, 5, H}) {
            Twins.refused("send(" + type + ", 1, 9)", busy(1), -1, x -> x.send(type, 1, 9));
            Twins.refused("send(" + type + ", 1, 9)", EventDesk::new, -1, x -> x.send(type, 1, 9));
        }
        for (int type = -1; type <= 4; type++) {
            int late = type;
            Twins.refused("65th send(" + type + ", 1, 9)", RefusedTest::full, -1, x -> x.send(late, 1, 9));
        }
    }

    /** Promise 11: "0..100; else -1 is answered, and nothing changes". */
    private static void advances() {
        for (int d : new int[] {L, -100, -1, 101, 102, H}) {
            Twins.refused("advance(" + d + ")", busy(1), -1, x -> x.advance(d));
            Twins.refused("advance(" + d + ")", RefusedTest::full, -1, x -> x.advance(d));
            Twins.refused("advance(" + d + ")", EventDesk::new, -1, x -> x.advance(d));
        }
    }

    /** Promise 13: "false if none was". */
    private static void restores() {
        Twins.refused("restore() of a new desk", EventDesk::new, 0, x -> Twins.asked(x.restore()));
        Twins.refused("restore() of nothing", withProgram(1, 3, 0, 2), 0, x -> Twins.asked(x.restore()));
        Supplier<EventDesk> cleared = () -> {
            EventDesk x = asked();
            x.clear();
            work(x, 2, 3, 0, 2);
            return x;
        };
        Twins.refused("restore() of nothing after clear()", cleared, 0, x -> Twins.asked(x.restore()));
    }

    /** Promises 15 to 17: what is asked for and isn't there is answered, and nothing changes. */
    private static void looks() {
        for (int slot : new int[] {L, -1, 5, 6, H}) {
            Twins.refused("given(" + slot + ", 0)", busy(1), -1, x -> x.given(slot, 0));
            Twins.refused("given(" + slot + ", 1)", busy(1), -1, x -> x.given(slot, 1));
            Twins.refused("output(" + slot + ", 0)", busy(1), 0, x -> x.output(slot, 0));
        }
        for (int slot = 0; slot <= 5; slot++) {
            int any = slot;
            for (int what : new int[] {L, -1, 2, 3, H}) {
                Twins.refused("given(" + slot + ", " + what + ")", busy(1), -1, x -> x.given(any, what));
            }
            for (int k : new int[] {L, -1, 8, 9, H}) {
                Twins.refused("output(" + slot + ", " + k + ")", busy(1), 0, x -> x.output(any, k));
            }
        }
        for (int what : new int[] {L, -1, 4, 5, H}) {
            Twins.refused("state(" + what + ")", busy(1), -1, x -> x.state(what));
        }
    }
}
