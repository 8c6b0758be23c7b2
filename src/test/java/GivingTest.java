/** Promises 8 and 9 (giving, remove): which outputs count, which are given, and routes. */
public final class GivingTest {
    private static final int L = Check.LOWEST;
    private static final int H = Check.HIGHEST;
    private static final long NONE = Check.NONE;

    public static void main(String[] args) {
        whatGivingTakes();
        refusedGivingChangesNothing();
        outputsGreaterThanLeastCount();
        eachRthIsGiven();
        rateChangesBetween();
        leastChangesBetween();
        routeOfEachType();
        routeEnds();
        removeTakesAway();
        removeOfNothing();
        routedFromEachSlot();
        onlyGivenOnesAreRouted();
        eachRateAfterEachOther();
        givingLeavesAllElse();
        noRoute();
        removeEachSlot();
        removedAndSetAgain();
        leastFarFromTheOutput();
        wrappedSumsAreCompared();
        Check.finish();
    }

    /** A window in the slot whose output for each event is its b. */
    private static EventDesk echo(int slot) {
        EventDesk x = new EventDesk();
        addEcho(x, slot);
        return x;
    }

    private static void addEcho(EventDesk x, int slot) {
        Check.always(x);
        Check.due("window", x.window(slot, 1, 1, 1, false), true);
    }

    /** "false .. if there is none in the slot, rate is not 1..8, or route not 0..4 (4: none)". */
    private static void whatGivingTakes() {
        EventDesk x = echo(3);
        for (int slot = -1; slot <= 6; slot++) {
            Check.due("giving in slot " + slot, x.giving(slot, 0, 1, 4), slot == 3);
        }
        Check.due("giving in slot L", x.giving(L, 0, 1, 4), false);
        Check.due("giving in slot H", x.giving(H, 0, 1, 4), false);
        for (int rate = -1; rate <= 10; rate++) {
            Check.due("rate " + rate, x.giving(3, 0, rate, 4), rate >= 1 && rate <= 8);
        }
        Check.due("rate L", x.giving(3, 0, L, 4), false);
        Check.due("rate H", x.giving(3, 0, H, 4), false);
        for (int route = -1; route <= 6; route++) {
            Check.due("route " + route, x.giving(3, 0, 1, route), route >= 0 && route <= 4);
        }
        Check.due("route L", x.giving(3, 0, 1, L), false);
        Check.due("route H", x.giving(3, 0, 1, H), false);
        Check.due("least L", x.giving(3, L, 1, 4), true);
        Check.due("least H", x.giving(3, H, 1, 4), true);
    }

    /** "false, and nothing changes": none of the three. */
    private static void refusedGivingChangesNothing() {
        EventDesk x = echo(0);
        Check.due("giving", x.giving(0, 10, 2, 3), true);
        Check.due("wrong rate", x.giving(0, 0, 0, 4), false);
        Check.due("wrong route", x.giving(0, 0, 1, 5), false);
        Check.sends(x, "as before", new int[][] {{0, 0, 10}, {0, 0, 11}}, 0, 0);
        // The given 12 comes back as an event, counts again, and is the first of the next two.
        Check.sends(x, "as before", new int[][] {{0, 0, 12}}, 1);
        Check.due("counted", x.given(0, 1), 3);
        Check.due("happened", x.state(0), 4);
    }

    /** "An output COUNTS if it is greater than the question's LEAST". */
    private static void outputsGreaterThanLeastCount() {
        EventDesk x = echo(0);
        x.giving(0, 5, 1, 4);
        Check.outputs(x, 0, "greater than 5",
                new int[][] {{0, 0, 0, 4}, {0, 0, 0, 5}, {0, 0, 0, 6}, {0, 0, 0, L}, {0, 0, 0, H}},
                NONE, NONE, 6, NONE, H);
        Check.due("counted", x.given(0, 1), 2);
        x.giving(0, -1, 1, 4);
        Check.outputs(x, 0, "greater than -1", new int[][] {{0, 0, 0, -1}, {0, 0, 0, 0}, {0, 0, 0, -2}}, NONE, 0, NONE);
        x.giving(0, H, 1, 4);
        Check.outputs(x, 0, "nothing is greater", new int[][] {{0, 0, 0, H}, {0, 0, 0, 7}}, NONE, NONE);
        x.giving(0, L, 1, 4);
        Check.outputs(x, 0, "all but the lowest", new int[][] {{0, 0, 0, L}, {0, 0, 0, L + 1}}, NONE, L + 1);
        x = echo(0);
        Check.outputs(x, 0, "a new question's least", new int[][] {{0, 0, 0, L}, {0, 0, 0, L + 1}}, NONE, L + 1);
    }

    /** "each R-th one (the R-th, 2 R-th ..) is GIVEN", R from 1 to 8. */
    private static void eachRthIsGiven() {
        for (int rate = 1; rate <= 8; rate++) {
            EventDesk x = echo(0);
            x.giving(0, 0, rate, 4);
            for (int i = 1; i <= 20; i++) {
                Check.due("one that does not count", x.send(0, 0, -i), 0);
                Check.due("rate " + rate + ", number " + i, x.send(0, 0, i), i % rate == 0 ? 1 : 0);
                Check.due("counted", x.given(0, 1), i);
                Check.due("given", x.given(0, 0), i / rate);
                Check.due("output", x.output(0, 0), i - i % rate);
            }
        }
    }

    /** "The outputs that counted stay counted", when RATE changes. */
    private static void rateChangesBetween() {
        EventDesk x = echo(0);
        x.giving(0, 0, 3, 4);
        x.send(0, 0, 1);
        x.send(0, 0, 2);
        x.giving(0, 0, 4, 4);
        Check.due("counted stays", x.given(0, 1), 2);
        Check.sends(x, "the fourth", new int[][] {{0, 0, 3}, {0, 0, 4}, {0, 0, 5}}, 0, 1, 0);
        x.giving(0, 0, 2, 4);
        Check.sends(x, "the sixth", new int[][] {{0, 0, 6}, {0, 0, 7}}, 1, 0);
        x.giving(0, 0, 8, 4);
        Check.sends(x, "the eighth", new int[][] {{0, 0, 8}, {0, 0, 9}}, 1, 0);
        x.giving(0, 0, 1, 4);
        Check.sends(x, "each", new int[][] {{0, 0, 10}, {0, 0, 11}}, 1, 1);
        Check.due("counted", x.given(0, 1), 11);
        Check.due("given", x.given(0, 0), 5);
    }

    /** "The outputs that counted stay counted", when LEAST changes. */
    private static void leastChangesBetween() {
        EventDesk x = echo(0);
        x.giving(0, 5, 1, 4);
        x.send(0, 0, 9);
        x.send(0, 0, 3);
        x.giving(0, 0, 1, 4);
        Check.due("counted stays", x.given(0, 1), 1);
        Check.due("given stays", x.given(0, 0), 1);
        Check.due("output stays", x.output(0, 0), 9);
        Check.due("now it counts", x.send(0, 0, 3), 1);
    }

    /** "that type, a the slot, b the output, at the same time". */
    private static void routeOfEachType() {
        for (int type = 0; type <= 3; type++) {
            EventDesk x = new EventDesk();
            // Only events with an a of 77 are routed, so that a routed one is not routed again.
            Check.condition(x, 1, 0, 77, 9);
            x.window(5, 0, 0, 1, false);
            x.giving(5, 0, 1, type);
            for (int slot = 0; slot < 4; slot++) {
                Check.condition(x, 3, 0, slot, 9, 1, 0, 5, 9, 10);
                x.window(slot, 1, 1, 1, false);
            }
            Check.due("route " + type, x.send(3 - type, 77, 10), 2);
            Check.due("route " + type, x.send(3 - type, 77, 20), 2);
            for (int slot = 0; slot < 4; slot++) {
                Check.due("routed events of type " + slot, x.given(slot, 0), slot == type ? 2 : 0);
                Check.due("b of the latest", x.output(slot, 0), slot == type ? 30 : 0);
            }
        }
        EventDesk x = new EventDesk();
        Check.typeIs(x, 0);
        x.window(2, 0, 0, 1, false);
        x.giving(2, 0, 1, 1);
        Check.condition(x, 3, 0, 1, 9, 1, 0, 2, 9, 10, 4, 10);
        x.window(4, 0, 0, 1, false);
        x.advance(7);
        Check.due("10 goes on as an event", x.send(0, 9, 10), 2);
        Check.due("its b", x.output(4, 0), 10);
        Check.due("30 goes on as an event", x.send(0, 9, 20), 2);
        Check.due("its b", x.output(4, 0), 40);
        Check.due("happened", x.state(0), 4);
    }

    /** "(4: none)". */
    private static void routeEnds() {
        EventDesk x = new EventDesk();
        Check.typeIs(x, 0);
        x.window(0, 0, 0, 0, false);
        x.giving(0, 0, 1, 1);
        x.send(0, 0, 0);
        Check.due("with a route", x.state(0), 2);
        x.giving(0, 0, 1, 4);
        x.send(0, 0, 0);
        Check.due("without", x.state(0), 3);
        Check.due("given", x.given(0, 0), 2);
    }

    /** "Takes a question away: true". */
    private static void removeTakesAway() {
        EventDesk x = echo(0);
        addEcho(x, 5);
        x.send(0, 0, 7);
        Check.due("remove", x.remove(0), true);
        Check.due("given", x.given(0, 0), -1);
        Check.due("counted", x.given(0, 1), -1);
        Check.due("output", x.output(0, 0), 0);
        Check.due("giving", x.giving(0, 0, 1, 4), false);
        Check.due("remove again", x.remove(0), false);
        Check.due("the other stays", x.given(5, 0), 1);
        Check.state(x, "what was given stays", 1, 0, 0, 2);
        Check.due("the other alone answers", x.send(0, 0, 8), 1);
        Check.due("remove the other", x.remove(5), true);
        Check.due("none answers", x.send(0, 0, 8), 0);
        addEcho(x, 0);
        Check.due("set again: given", x.given(0, 0), 0);
        Check.due("set again: counted", x.given(0, 1), 0);
        Check.due("set again: output", x.output(0, 0), 0);
        Check.due("set again: send", x.send(0, 0, 9), 1);
        Check.due("in all", x.state(3), 4);
    }

    /** "false if there is none". */
    private static void removeOfNothing() {
        EventDesk x = echo(2);
        for (int slot : new int[] {-1, 0, 1, 3, 4, 5, 6, 7, L, H}) {
            Check.due("remove " + slot, x.remove(slot), false);
        }
        Check.due("remove 2", x.remove(2), true);
    }

    /** "a given output makes an event: that type, a the slot, b the output": from each slot, of each b. */
    private static void routedFromEachSlot() {
        for (int slot = 0; slot <= 5; slot++) {
            for (int b : new int[] {L + 1, -1, 0, 1, H}) {
                EventDesk x = new EventDesk();
                Check.typeIs(x, 0);
                x.window(slot, 1, 1, 1, false);
                x.giving(slot, L, 1, 2);
                // Type 2, a is the slot, and b is the output.
                int other = (slot + 1) % 6;
                Check.condition(x, 3, 0, 2, 9, 1, 0, slot, 9, 10, 2, 0, b, 9, 10);
                x.window(other, 0, 0, 0, false);
                Check.due("slot " + slot + ", b " + b, x.send(0, 77, b), 2);
                Check.due("as it should be", x.given(other, 0), 1);
                Check.due("happened", x.state(0), 2);
            }
        }
    }

    /** "Of the outputs that count each R-th one is GIVEN": only a given one makes an event. */
    private static void onlyGivenOnesAreRouted() {
        EventDesk x = new EventDesk();
        Check.typeIs(x, 0);
        x.window(0, 1, 1, 1, false);
        x.giving(0, 5, 3, 1);
        for (int i = 1; i <= 9; i++) {
            Check.due("one that does not count", x.send(0, 0, 5), 0);
            Check.due("number " + i, x.send(0, 0, 6), i % 3 == 0 ? 1 : 0);
            Check.due("happened after number " + i, x.state(0), 2 * i + i / 3);
        }
        Check.state(x, "three were routed", 21, 0, 0, 3);
    }

    /** "the R-th, 2 R-th .." of those that count, and "the outputs that counted stay counted": each R after each other. */
    private static void eachRateAfterEachOther() {
        for (int first = 1; first <= 8; first++) {
            for (int second = 1; second <= 8; second++) {
                EventDesk x = echo(0);
                x.giving(0, 0, first, 4);
                for (int i = 1; i <= 30; i++) {
                    if (i == 6) {
                        Check.due("giving", x.giving(0, 0, second, 4), true);
                        Check.due("counted", x.given(0, 1), 5);
                        Check.due("given", x.given(0, 0), 5 / first);
                        Check.due("output", x.output(0, 0), 5 - 5 % first);
                    }
                    int rate = i < 6 ? first : second;
                    Check.due("rate " + first + " and then " + second + ", number " + i,
                            x.send(0, 0, i), i % rate == 0 ? 1 : 0);
                }
            }
        }
    }

    /** giving() changes those three of that question alone. */
    private static void givingLeavesAllElse() {
        EventDesk x = echo(0);
        addEcho(x, 1);
        x.send(0, 0, 7);
        x.advance(3);
        Check.typesAre(x, 1, 2);
        Check.terms(x, 1);
        Check.due("giving", x.giving(1, 8, 2, 4), true);
        Check.state(x, "after giving", 1, 0, 3, 2);
        Check.due("program and list stay", x.drop(), 3);
        Check.due("8 does not count", x.send(0, 0, 8), 1);
        Check.due("9 is the second that counts", x.send(0, 0, 9), 2);
        Check.due("10 is the third", x.send(0, 0, 10), 1);
        Check.due("counted", x.given(1, 1), 3);
        Check.due("given", x.given(1, 0), 2);
        Check.due("output", x.output(1, 0), 9);
    }

    /** "4: none": of a question that had a route, and of one that had none. */
    private static void noRoute() {
        for (int route = 0; route <= 4; route++) {
            EventDesk x = new EventDesk();
            Check.condition(x, 1, 0, 77, 9);
            x.window(0, 1, 1, 1, false);
            x.giving(0, 0, 1, route);
            x.send(0, 77, 1);
            Check.due("route " + route, x.state(0), route == 4 ? 1 : 2);
            int happened = x.state(0);
            x.giving(0, 0, 1, 4);
            Check.due("given", x.send(0, 77, 1), 1);
            Check.due("route 4 after " + route, x.state(0), happened + 1);
        }
    }

    /** "Takes a question away": each slot's, and the others stay. */
    private static void removeEachSlot() {
        for (int slot = 0; slot <= 5; slot++) {
            EventDesk x = new EventDesk();
            for (int other = 0; other <= 5; other++) {
                addEcho(x, other);
            }
            Check.typesAre(x, 1, 2);
            Check.terms(x, 1);
            Check.due("six", x.send(0, 0, 3), 6);
            Check.due("remove " + slot, x.remove(slot), true);
            Check.due("remove leaves program and list", x.drop(), 3);
            Check.state(x, "remove " + slot, 1, 0, 0, 6);
            Check.due("five", x.send(0, 0, 4), 5);
            for (int other = 0; other <= 5; other++) {
                Check.due("given", x.given(other, 0), other == slot ? -1 : 2);
                Check.due("output", x.output(other, 0), other == slot ? 0 : 4);
                Check.due("remove again", x.remove(other), other != slot);
            }
            Check.due("none", x.send(0, 0, 5), 0);
        }
    }

    /** A question that was taken away sees nothing any more, and a new one in its slot does not see for it. */
    private static void removedAndSetAgain() {
        EventDesk x = new EventDesk();
        Check.typesAre(x, 0, 1);
        x.pattern(0, 100, 4, false, true);
        Check.typesAre(x, 0, 1);
        x.join(1, 4, 4);
        x.send(0, 0, 5);
        x.remove(0);
        x.remove(1);
        x.send(0, 0, 6);
        Check.typesAre(x, 0, 1);
        x.pattern(0, 100, 4, false, true);
        Check.typesAre(x, 0, 1);
        x.join(1, 4, 4);
        Check.due("nothing seen", x.send(1, 0, 7), 0);
        Check.due("the right of the join", x.send(0, 0, 8), 1);
        Check.due("both", x.send(1, 0, 9), 2);
        Check.due("one match", x.output(0, 0), 1);
        Check.due("one on the left", x.output(1, 0), 8);
    }

    /** "greater than the question's LEAST": where the difference of the two would wrap. */
    private static void leastFarFromTheOutput() {
        int[] ints = {L, L + 1, -2, -1, 0, 1, 2, H - 1, H};
        for (int least : ints) {
            EventDesk x = echo(0);
            x.giving(0, least, 1, 4);
            for (int b : ints) {
                Check.due("output " + b + ", LEAST " + least, x.send(0, 0, b), b > least ? 1 : 0);
            }
        }
    }

    /** A sum wraps before it is compared with LEAST. */
    private static void wrappedSumsAreCompared() {
        EventDesk x = new EventDesk();
        Check.always(x);
        x.window(0, 1, 2, 1, false);
        x.giving(0, 0, 1, 4);
        Check.outputs(x, 0, "window",
                new int[][] {{0, 0, 0, H}, {0, 0, 0, 1}, {0, 0, 0, -2}, {0, 0, 0, L}, {0, 0, 0, L + 5}},
                H, NONE, NONE, H - 1, 5);
        x = new EventDesk();
        Check.typesAre(x, 0, 1);
        x.join(0, 2, 2);
        x.giving(0, 0, 1, 4);
        Check.outputs(x, 0, "join",
                new int[][] {{0, 0, 0, H}, {0, 0, 0, 1}, {0, 1, 0, 0}, {0, 0, 0, L}, {0, 0, 0, L + 5}, {0, 1, 0, 0}},
                NONE, NONE, NONE, NONE, NONE, 5);
    }
}
