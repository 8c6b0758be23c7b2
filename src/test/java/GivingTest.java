/** Promises 8 and 9 (giving, remove): which outputs count, which are given, and routes. */
public final class GivingTest {
    private static final int L = Check.LOWEST;
    private static final int H = Check.HIGHEST;
    private static final long NONE = Check.NONE;

    public static void main(String[] args) {
        whatGivingTakes();
        refusedGivingChangesNothing();
        outputsGreaterThanLeastCount();
        eachRthIsGiven();
        rateChangesBetween();
        leastChangesBetween();
        routeOfEachType();
        routeEnds();
        removeTakesAway();
        removeOfNothing();
        Check.finish();
    }

    /** A window in the slot whose output for each event is its b. */
    private static EventDesk echo(int slot) {
        EventDesk x = new EventDesk();
        addEcho(x, slot);
        return x;
    }

    private static void addEcho(EventDesk x, int slot) {
        Check.always(x);
        Check.due("window", x.window(slot, 1, 1, 1, false), true);
    }

    private static void whatGivingTakes() {
        EventDesk x = echo(3);
        for (int slot = -1; slot <= 6; slot++) {
            Check.due("giving in slot " + slot, x.giving(slot, 0, 1, 4), slot == 3);
        }
        Check.due("giving in slot L", x.giving(L, 0, 1, 4), false);
        Check.due("giving in slot H", x.giving(H, 0, 1, 4), false);
        for (int rate = -1; rate <= 10; rate++) {
            Check.due("rate " + rate, x.giving(3, 0, rate, 4), rate >= 1 && rate <= 8);
        }
        Check.due("rate L", x.giving(3, 0, L, 4), false);
        Check.due("rate H", x.giving(3, 0, H, 4), false);
        for (int route = -1; route <= 6; route++) {
            Check.due("route " + route, x.giving(3, 0, 1, route), route >= 0 && route <= 4);
        }
        Check.due("route L", x.giving(3, 0, 1, L), false);
        Check.due("route H", x.giving(3, 0, 1, H), false);
        Check.due("least L", x.giving(3, L, 1, 4), true);
        Check.due("least H", x.giving(3, H, 1, 4), true);
    }

    private static void refusedGivingChangesNothing() {
        EventDesk x = echo(0);
        Check.due("giving", x.giving(0, 10, 2, 3), true);
        Check.due("wrong rate", x.giving(0, 0, 0, 4), false);
        Check.due("wrong route", x.giving(0, 0, 1, 5), false);
        Check.sends(x, "as before", new int[][] {{0, 0, 10}, {0, 0, 11}}, 0, 0);
        // The given 12 comes back as an event, counts again, and is the first of the next two.
        Check.sends(x, "as before", new int[][] {{0, 0, 12}}, 1);
        Check.due("counted", x.given(0, 1), 3);
        Check.due("happened", x.state(0), 4);
    }

    private static void outputsGreaterThanLeastCount() {
        EventDesk x = echo(0);
        x.giving(0, 5, 1, 4);
        Check.outputs(x, 0, "greater than 5",
                new int[][] {{0, 0, 0, 4}, {0, 0, 0, 5}, {0, 0, 0, 6}, {0, 0, 0, L}, {0, 0, 0, H}},
                NONE, NONE, 6, NONE, H);
        Check.due("counted", x.given(0, 1), 2);
        x.giving(0, -1, 1, 4);
        Check.outputs(x, 0, "greater than -1", new int[][] {{0, 0, 0, -1}, {0, 0, 0, 0}, {0, 0, 0, -2}}, NONE, 0, NONE);
        x.giving(0, H, 1, 4);
        Check.outputs(x, 0, "nothing is greater", new int[][] {{0, 0, 0, H}, {0, 0, 0, 7}}, NONE, NONE);
        x.giving(0, L, 1, 4);
        Check.outputs(x, 0, "all but the lowest", new int[][] {{0, 0, 0, L}, {0, 0, 0, L + 1}}, NONE, L + 1);
        x = echo(0);
        Check.outputs(x, 0, "a new question's least", new int[][] {{0, 0, 0, L}, {0, 0, 0, L + 1}}, NONE, L + 1);
    }

    private static void eachRthIsGiven() {
        for (int rate = 1; rate <= 8; rate++) {
            EventDesk x = echo(0);
            x.giving(0, 0, rate, 4);
            for (int i = 1; i <= 20; i++) {
                Check.due("one that does not count", x.send(0, 0, -i), 0);
                Check.due("rate " + rate + ", number " + i, x.send(0, 0, i), i % rate == 0 ? 1 : 0);
                Check.due("counted", x.given(0, 1), i);
                Check.due("given", x.given(0, 0), i / rate);
                Check.due("output", x.output(0, 0), i - i % rate);
            }
        }
    }

    private static void rateChangesBetween() {
        EventDesk x = echo(0);
        x.giving(0, 0, 3, 4);
        x.send(0, 0, 1);
        x.send(0, 0, 2);
        x.giving(0, 0, 4, 4);
        Check.due("counted stays", x.given(0, 1), 2);
        Check.sends(x, "the fourth", new int[][] {{0, 0, 3}, {0, 0, 4}, {0, 0, 5}}, 0, 1, 0);
        x.giving(0, 0, 2, 4);
        Check.sends(x, "the sixth", new int[][] {{0, 0, 6}, {0, 0, 7}}, 1, 0);
        x.giving(0, 0, 8, 4);
        Check.sends(x, "the eighth", new int[][] {{0, 0, 8}, {0, 0, 9}}, 1, 0);
        x.giving(0, 0, 1, 4);
        Check.sends(x, "each", new int[][] {{0, 0, 10}, {0, 0, 11}}, 1, 1);
        Check.due("counted", x.given(0, 1), 11);
        Check.due("given", x.given(0, 0), 5);
    }

    private static void leastChangesBetween() {
        EventDesk x = echo(0);
        x.giving(0, 5, 1, 4);
        x.send(0, 0, 9);
        x.send(0, 0, 3);
        x.giving(0, 0, 1, 4);
        Check.due("counted stays", x.given(0, 1), 1);
        Check.due("given stays", x.given(0, 0), 1);
        Check.due("output stays", x.output(0, 0), 9);
        Check.due("now it counts", x.send(0, 0, 3), 1);
    }

    private static void routeOfEachType() {
        for (int type = 0; type <= 3; type++) {
            EventDesk x = new EventDesk();
            // Only events with an a of 77 are routed, so that a routed one is not routed again.
            Check.condition(x, 1, 0, 77, 9);
            x.window(5, 0, 0, 1, false);
            x.giving(5, 0, 1, type);
            for (int slot = 0; slot < 4; slot++) {
                Check.condition(x, 3, 0, slot, 9, 1, 0, 5, 9, 10);
                x.window(slot, 1, 1, 1, false);
            }
            Check.due("route " + type, x.send(3 - type, 77, 10), 2);
            Check.due("route " + type, x.send(3 - type, 77, 20), 2);
            for (int slot = 0; slot < 4; slot++) {
                Check.due("routed events of type " + slot, x.given(slot, 0), slot == type ? 2 : 0);
                Check.due("b of the latest", x.output(slot, 0), slot == type ? 30 : 0);
            }
        }
        EventDesk x = new EventDesk();
        Check.typeIs(x, 0);
        x.window(2, 0, 0, 1, false);
        x.giving(2, 0, 1, 1);
        Check.condition(x, 3, 0, 1, 9, 1, 0, 2, 9, 10, 4, 10);
        x.window(4, 0, 0, 1, false);
        x.advance(7);
        Check.due("10 goes on as an event", x.send(0, 9, 10), 2);
        Check.due("its b", x.output(4, 0), 10);
        Check.due("30 goes on as an event", x.send(0, 9, 20), 2);
        Check.due("its b", x.output(4, 0), 40);
        Check.due("happened", x.state(0), 4);
    }

    private static void routeEnds() {
        EventDesk x = new EventDesk();
        Check.typeIs(x, 0);
        x.window(0, 0, 0, 0, false);
        x.giving(0, 0, 1, 1);
        x.send(0, 0, 0);
        Check.due("with a route", x.state(0), 2);
        x.giving(0, 0, 1, 4);
        x.send(0, 0, 0);
        Check.due("without", x.state(0), 3);
        Check.due("given", x.given(0, 0), 2);
    }

    private static void removeTakesAway() {
        EventDesk x = echo(0);
        addEcho(x, 5);
        x.send(0, 0, 7);
        Check.due("remove", x.remove(0), true);
        Check.due("given", x.given(0, 0), -1);
        Check.due("counted", x.given(0, 1), -1);
        Check.due("output", x.output(0, 0), 0);
        Check.due("giving", x.giving(0, 0, 1, 4), false);
        Check.due("remove again", x.remove(0), false);
        Check.due("the other stays", x.given(5, 0), 1);
        Check.state(x, "what was given stays", 1, 0, 0, 2);
        Check.due("the other alone answers", x.send(0, 0, 8), 1);
        Check.due("remove the other", x.remove(5), true);
        Check.due("none answers", x.send(0, 0, 8), 0);
        addEcho(x, 0);
        Check.due("set again: given", x.given(0, 0), 0);
        Check.due("set again: counted", x.given(0, 1), 0);
        Check.due("set again: output", x.output(0, 0), 0);
        Check.due("set again: send", x.send(0, 0, 9), 1);
        Check.due("in all", x.state(3), 4);
    }

    private static void removeOfNothing() {
        EventDesk x = echo(2);
        for (int slot : new int[] {-1, 0, 1, 3, 4, 5, 6, 7, L, H}) {
            Check.due("remove " + slot, x.remove(slot), false);
        }
        Check.due("remove 2", x.remove(2), true);
    }
}
