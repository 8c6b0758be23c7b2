import java.util.ArrayList;
import java.util.List;
import java.util.function.Supplier;
import java.util.function.ToLongFunction;

/**
 * "Nothing changes": two desks are made alike, and one of them has a refused call besides. Whatever is
 * asked of them from then on, both answer alike.
 */
final class Twins {
    private static final int LOWEST = Integer.MIN_VALUE;
    private static final int HIGHEST = Integer.MAX_VALUE;

    private final EventDesk x;
    private final List<Long> answers = new ArrayList<>();

    private Twins(EventDesk x) {
        this.x = x;
    }

    static long asked(boolean answer) {
        return answer ? 1 : 0;
    }

    static void refused(String what, Supplier<EventDesk> making, long due, ToLongFunction<EventDesk> call) {
        for (int sequel = 0; sequel <= 7; sequel++) {
            EventDesk with = making.get();
            Check.due(what, call.applyAsLong(with), due);
            List<Long> got = new Twins(with).answersOf(sequel);
            List<Long> want = new Twins(making.get()).answersOf(sequel);
            for (int i = 0; i < want.size(); i++) {
                Check.due("after the refused " + what + ", sequel " + sequel + ", call " + i, got.get(i), want.get(i));
            }
        }
    }

    private void note(long answer) {
        answers.add(answer);
    }

    private void note(boolean answer) {
        answers.add(asked(answer));
    }

    private List<Long> answersOf(int sequel) {
        switch (sequel) {
            case 0:
                look();
                break;
            case 1:
                note(x.drop());
                note(x.condition());
                break;
            case 2:
                finishProgram();
                note(x.drop());
                break;
            case 3:
                finishProgram();
                useList();
                break;
            case 4:
                useList();
                break;
            case 5:
                events();
                break;
            case 6:
                note(x.restore());
                look();
                events();
                break;
            default:
                note(x.clear());
                look();
                events();
                note(x.restore());
                look();
                break;
        }
        return answers;
    }

    private void look() {
        for (int what = 0; what <= 3; what++) {
            note(x.state(what));
        }
        for (int slot = 0; slot <= 5; slot++) {
            note(x.given(slot, 0));
            note(x.given(slot, 1));
            for (int k = 0; k <= 7; k++) {
                note(x.output(slot, k));
            }
        }
    }

    private void finishProgram() {
        note(x.term(9, 0));
        note(x.condition());
    }

    private void useList() {
        note(x.window(5, 0, 0, 1, false));
        note(x.join(5, 5, 5));
        note(x.pattern(5, 1000, 4, false, false));
        note(x.drop());
        events();
    }

    /** Events of every type, each a often enough to fill windows, with the clock going on between. */
    private void events() {
        note(x.advance(0));
        for (int i = 0; i < 24; i++) {
            note(x.send(i * 7 % 4, i % 3, i % 5 == 4 ? -i : 3 * i + 1));
            if (i % 4 == 3) {
                note(x.advance(i));
            }
        }
        look();
        note(x.send(0, HIGHEST, LOWEST));
        note(x.send(1, HIGHEST, HIGHEST));
        look();
    }
}
