/** Promises 10 and 11 (send, advance): what happens, in which order, and what is lost. */
public final class SendTest {
    private static final int L = Check.LOWEST;
    private static final int H = Check.HIGHEST;

    public static void main(String[] args) {
        whichEventsAreSent();
        sixtyFourEvents();
        slotsInTheirOrder();
        routedEventsWaitInLine();
        routedEventsHappenAtTheSameTime();
        routesFeedThemselves();
        waitingEventsTakePlaces();
        lostOutputsAreGiven();
        howTheClockGoesOn();
        sixtyFourSinceClear();
        eachNumberOfPlacesLeft();
        laterSlotsAreLost();
        lostOnAndOn();
        onlyThisCallsOutputs();
        eachAdvance();
        advanceGivesNothing();
        lostOfEachType();
        Check.finish();
    }

    /** "-1, and nothing changes, if type is not 0..3". */
    private static void whichEventsAreSent() {
        EventDesk x = new EventDesk();
        Check.always(x);
        x.window(0, 0, 0, 0, false);
        for (int type : new int[] {-1, 4, 5, L, H}) {
            Check.due("type " + type, x.send(type, 0, 0), -1);
        }
        Check.state(x, "nothing happened", 0, 0, 0, 0);
        Check.due("nothing counted", x.given(0, 1), 0);
        for (int type = 0; type <= 3; type++) {
            Check.due("type " + type, x.send(type, L, H), 1);
            Check.due("happened", x.state(0), type + 1);
        }
        EventDesk y = new EventDesk();
        Check.due("no question", y.send(0, 0, 0), 0);
        Check.due("it happened all the same", y.state(0), 1);
    }

    /** "or 64 events have happened". */
    private static void sixtyFourEvents() {
        EventDesk x = new EventDesk();
        Check.always(x);
        x.window(0, 0, 0, 0, false);
        for (int i = 1; i <= 64; i++) {
            Check.due("event " + i, x.send(0, 0, 0), 1);
        }
        Check.due("event 65", x.send(0, 0, 0), -1);
        Check.due("event 65 of a wrong type", x.send(9, 0, 0), -1);
        Check.state(x, "64 events", 64, 0, 0, 64);
        Check.due("counted", x.given(0, 1), 64);
        x.clear();
        Check.due("after clear", x.send(0, 0, 0), 1);
    }

    /** Each of two slots routes the event's b, times something, as type 1; slot 5 sees these. */
    private static void slotsInTheirOrder() {
        EventDesk x = new EventDesk();
        Check.typeIs(x, 1);
        x.window(5, 1, 1, 1, false);
        Check.typeIs(x, 0);
        x.window(4, 0, 0, 1, false);
        Check.typeIs(x, 0);
        x.window(1, 0, 0, 0, false);
        x.giving(4, 0, 1, 1);
        x.giving(1, 0, 1, 1);
        Check.due("two outputs, two events", x.send(0, 0, 50), 4);
        Check.due("the later one is of slot 4", x.output(5, 0), 50);
        Check.due("the earlier one is of slot 1", x.output(5, 1), 1);
    }

    /** "after all events that wait so already; it happens when the event before it has gone to all questions". */
    private static void routedEventsWaitInLine() {
        EventDesk x = new EventDesk();
        // Slot 0: type 0 makes a type 1. Slot 1: type 1 makes a type 2. Slot 2: type 0 makes a type 3.
        int[][] routes = {{0, 1}, {1, 2}, {0, 3}};
        for (int slot = 0; slot < 3; slot++) {
            Check.typeIs(x, routes[slot][0]);
            x.window(slot, 0, 0, 0, false);
            x.giving(slot, 0, 1, routes[slot][1]);
        }
        // The order is 0, 1, 3, 2: the 2 is made while the 3 waits.
        Check.typesAre(x, 0, 1, 3);
        x.pattern(3, 1, 2, false, false);
        Check.typesAre(x, 1, 3, 2);
        x.pattern(4, 1, 4, false, false);
        Check.typesAre(x, 2, 3);
        x.pattern(5, 1, 4, false, false);
        Check.due("send", x.send(0, 0, 0), 5);
        Check.due("0, 1, 3", x.output(3, 0), 1);
        Check.due("1, 3, 2", x.output(4, 0), 1);
        Check.due("not 2, 3", x.given(5, 0), 0);
        Check.due("happened", x.state(0), 4);
    }

    /** "at the same time". */
    private static void routedEventsHappenAtTheSameTime() {
        EventDesk x = new EventDesk();
        Check.typeIs(x, 0);
        x.window(0, 0, 0, 0, false);
        x.giving(0, 0, 1, 1);
        Check.condition(x, 3, 0, 1, 9, 4, 0, 12, 9, 10);
        x.window(1, 0, 0, 0, false);
        x.advance(5);
        Check.due("at 5", x.send(0, 0, 0), 1);
        x.advance(7);
        Check.due("at 12", x.send(0, 0, 0), 2);
        x.advance(1);
        Check.due("at 13", x.send(0, 0, 0), 1);
        Check.due("the clock stands", x.state(2), 13);
    }

    /** "An event happens, and all that it makes": until there are 64. */
    private static void routesFeedThemselves() {
        EventDesk x = new EventDesk();
        Check.always(x);
        x.window(3, 0, 0, 0, false);
        x.giving(3, L, 1, 2);
        Check.due("until there are 64", x.send(0, 0, 0), 64);
        Check.state(x, "until there are 64", 64, 1, 0, 64);
        Check.due("the latest", x.output(3, 0), 64);
        Check.due("no more", x.send(0, 0, 0), -1);
        Check.state(x, "no more", 64, 1, 0, 64);
    }

    /** "If 64 events have happened or wait, it is LOST instead". */
    private static void waitingEventsTakePlaces() {
        EventDesk x = new EventDesk();
        for (int slot = 0; slot < 4; slot++) {
            Check.typeIs(x, 0);
            x.window(slot, 0, 0, 0, false);
            x.giving(slot, 0, 1, slot == 3 ? 0 : 1);
        }
        x.giving(3, 99, 1, 0);
        Check.typeIs(x, 1);
        x.window(4, 0, 0, 0, false);
        for (int i = 1; i <= 15; i++) {
            Check.due("one and three", x.send(0, 0, 0), 6);
        }
        Check.state(x, "fifteen times four", 60, 0, 0, 90);
        Check.due("four more", x.send(0, 0, 0), 6);
        Check.state(x, "all places are taken", 64, 0, 0, 96);
        x.clear();
        x.send(2, 0, 0);
        x.send(2, 0, 0);
        for (int i = 1; i <= 15; i++) {
            x.send(0, 0, 0);
        }
        Check.state(x, "two places are left", 62, 0, 0, 90);
        // The event takes one, the first routed one waits for the other, and two are lost.
        Check.due("one, and one of three", x.send(0, 0, 0), 4);
        Check.state(x, "two are lost", 64, 2, 0, 94);
        Check.due("slot 0's was the one", x.given(4, 0), 46);
    }

    /** The event is lost; the output was given. */
    private static void lostOutputsAreGiven() {
        EventDesk x = new EventDesk();
        Check.typeIs(x, 1);
        x.window(0, 1, 1, 1, false);
        x.giving(0, 0, 1, 0);
        for (int i = 0; i < 63; i++) {
            x.send(2, 0, 0);
        }
        Check.due("given", x.send(1, 0, 9), 1);
        Check.due("output", x.output(0, 0), 9);
        Check.due("given(0, 0)", x.given(0, 0), 1);
        Check.state(x, "lost", 64, 1, 0, 1);
    }

    /** "The clock goes on by d (0..100; else -1 is answered, and nothing changes). Answers the time". */
    private static void howTheClockGoesOn() {
        EventDesk x = new EventDesk();
        Check.due("advance(0)", x.advance(0), 0);
        Check.due("advance(1)", x.advance(1), 1);
        Check.due("advance(100)", x.advance(100), 101);
        for (int d : new int[] {-1, 101, 1000, L, H}) {
            Check.due("advance(" + d + ")", x.advance(d), -1);
            Check.due("the time stays", x.state(2), 101);
        }
        Check.due("advance(0)", x.advance(0), 101);
        for (int i = 0; i < 480; i++) {
            x.advance(100);
        }
        Check.due("a late time", x.advance(7), 48108);
        Check.condition(x, 4, 0, 48108, 9);
        x.window(0, 0, 0, 0, false);
        Check.due("an event's time", x.send(0, 0, 0), 1);
    }

    /** "At most 64 happen since the beginning or the latest clear()": sent or routed, again and again. */
    private static void sixtyFourSinceClear() {
        EventDesk x = new EventDesk();
        for (int round = 1; round <= 3; round++) {
            for (int i = 1; i <= 64; i++) {
                Check.due("event " + i + " of round " + round, x.send(i % 4, 0, 0), 0);
            }
            Check.due("the 65th of round " + round, x.send(0, 0, 0), -1);
            Check.state(x, "round " + round, 64, 0, 0, 0);
            Check.due("clear", x.clear(), 64);
        }
        Check.typeIs(x, 0);
        x.window(0, 0, 0, 0, false);
        x.giving(0, L, 1, 1);
        for (int i = 1; i <= 32; i++) {
            Check.due("one and a routed one", x.send(0, 0, 0), 1);
            Check.due("happened", x.state(0), 2 * i);
        }
        Check.due("no more", x.send(0, 0, 0), -1);
        Check.state(x, "none was lost", 64, 0, 0, 32);
    }

    /** "If 64 events have happened or wait, it is LOST instead": with each number of places left. */
    private static void eachNumberOfPlacesLeft() {
        for (int before = 57; before <= 63; before++) {
            EventDesk x = new EventDesk();
            for (int slot = 0; slot <= 5; slot++) {
                Check.typeIs(x, 0);
                x.window(slot, 1, 1, 1, false);
                x.giving(slot, L, 1, 1);
            }
            for (int i = 0; i < before; i++) {
                x.send(3, 0, 0);
            }
            int places = 63 - before;
            int lost = places < 6 ? 6 - places : 0;
            Check.due("all six are given", x.send(0, 0, 9), 6);
            Check.state(x, before + " before", 64 - (places < 6 ? 0 : places - 6), lost, 0, 6);
            for (int slot = 0; slot <= 5; slot++) {
                Check.due("lost or not, it was given", x.given(slot, 0), 1);
                Check.due("output", x.output(slot, 0), 9);
            }
        }
    }

    /** The first that are routed have the places; those of the later slots are lost. */
    private static void laterSlotsAreLost() {
        EventDesk x = new EventDesk();
        for (int slot = 0; slot <= 2; slot++) {
            Check.typeIs(x, 0);
            x.window(slot, 1, 1, 1, false);
            x.giving(slot, L, 1, 1);
        }
        for (int slot = 3; slot <= 5; slot++) {
            Check.condition(x, 3, 0, 1, 9, 1, 0, slot - 3, 9, 10);
            x.window(slot, 0, 0, 0, false);
        }
        for (int i = 0; i < 61; i++) {
            x.send(3, 0, 0);
        }
        Check.due("three, and two that happen", x.send(0, 0, 9), 5);
        Check.state(x, "one was lost", 64, 1, 0, 5);
        Check.due("of slot 0", x.given(3, 0), 1);
        Check.due("of slot 1", x.given(4, 0), 1);
        Check.due("not of slot 2", x.given(5, 0), 0);
    }

    /** Lost events are counted on and on; what is lost never happens. */
    private static void lostOnAndOn() {
        EventDesk x = new EventDesk();
        Check.always(x);
        x.window(0, 1, 1, 1, false);
        x.giving(0, 0, 1, 1);
        Check.always(x);
        x.window(1, 1, 1, 1, false);
        x.giving(1, 0, 1, 2);
        // Each event is given twice and makes two: 1, 2, 4, .. 32, and of the last 32 but one finds a place.
        Check.due("all 64 are given twice", x.send(0, 0, 5), 128);
        Check.state(x, "128 outputs, 63 events of them", 64, 65, 0, 128);
    }

    /** "the number of outputs that were given": by this call alone, with those of routed events. */
    private static void onlyThisCallsOutputs() {
        EventDesk x = new EventDesk();
        Check.always(x);
        x.window(0, 1, 1, 1, false);
        x.giving(0, 0, 2, 4);
        Check.always(x);
        x.window(1, 1, 1, 1, false);
        x.giving(1, 3, 1, 4);
        Check.sends(x, "not given, given, both, one",
                new int[][] {{0, 0, 1}, {0, 0, 1}, {0, 0, 9}, {0, 0, 9}, {0, 0, 0}, {0, 0, 3}}, 0, 1, 1, 2, 0, 0);
        Check.due("in all", x.state(3), 4);
    }

    /** "0..100": each of them, and what a d of 0 does: the clock stands, and events share their time. */
    private static void eachAdvance() {
        EventDesk x = new EventDesk();
        int time = 0;
        for (int d = 0; d <= 100; d++) {
            time += d;
            Check.due("advance(" + d + ")", x.advance(d), time);
        }
        Check.due("state(2)", x.state(2), time);
        for (int d = -5; d <= 105; d++) {
            time += d < 0 || d > 100 ? 0 : d;
            Check.due("advance(" + d + ")", x.advance(d), d < 0 || d > 100 ? -1 : time);
        }
        Check.state(x, "no events", 0, 0, time, 0);
    }

    /** The clock alone changes no question: a view grows old only when a member comes. */
    private static void advanceGivesNothing() {
        EventDesk x = new EventDesk();
        Check.always(x);
        x.window(0, 2, 5, 0, false);
        Check.always(x);
        x.window(1, 5, 5, 0, false);
        x.send(0, 0, 0);
        for (int i = 0; i < 10; i++) {
            x.advance(i);
            Check.due("given", x.given(0, 0), 1);
            Check.due("given", x.given(1, 0), 1);
            Check.due("given in all", x.state(3), 2);
        }
        for (int i = 0; i < 63; i++) {
            x.send(0, 0, 0);
        }
        Check.due("after 64 events the clock goes on, too", x.advance(100), 145);
    }

    /** A lost event is lost whatever its type would have been. */
    private static void lostOfEachType() {
        for (int route = 0; route <= 4; route++) {
            EventDesk x = new EventDesk();
            Check.always(x);
            x.window(0, 1, 1, 1, false);
            x.giving(0, 0, 1, route);
            for (int i = 0; i < 63; i++) {
                Check.due("not given", x.send(0, 0, 0), 0);
            }
            Check.due("given", x.send(0, 0, 1), 1);
            Check.state(x, "route " + route, 64, route == 4 ? 0 : 1, 0, 1);
        }
    }
}
