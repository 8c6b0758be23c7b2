/** Promise 1: no questions, no events, the time 0, nothing kept. */
public final class NewObjectTest {
    public static void main(String[] args) {
        EventDesk x = new EventDesk();
        Check.state(x, "new", 0, 0, 0, 0);
        for (int slot = 0; slot < 6; slot++) {
            Check.due("new: given", x.given(slot, 0), -1);
            Check.due("new: counted", x.given(slot, 1), -1);
            for (int k = 0; k <= 7; k++) {
                Check.due("new: output", x.output(slot, k), 0);
            }
            Check.due("new: remove", x.remove(slot), false);
            Check.due("new: giving", x.giving(slot, 0, 1, 4), false);
        }
        Check.due("new: restore", x.restore(), false);
        Check.due("new: condition", x.condition(), false);
        Check.due("new: drop", x.drop(), 0);
        Check.due("new: clear", x.clear(), 0);
        Check.due("new: restore after clear", x.restore(), false);
        Check.due("new: advance(0)", x.advance(0), 0);
        Check.due("new: send", x.send(0, 0, 0), 0);
        Check.state(x, "new, one event", 1, 0, 0, 0);
        objectsAreApart();
        Check.finish();
    }

    /** What one object does is nothing to another. */
    private static void objectsAreApart() {
        EventDesk x = new EventDesk();
        EventDesk y = new EventDesk();
        Check.always(x);
        x.window(0, 0, 0, 0, false);
        x.send(0, 0, 0);
        x.advance(5);
        x.keep();
        x.term(1, 0);
        Check.state(y, "other object", 0, 0, 0, 0);
        Check.due("other object: given", y.given(0, 0), -1);
        Check.due("other object: restore", y.restore(), false);
        Check.due("other object: drop", y.drop(), 0);
    }
}
