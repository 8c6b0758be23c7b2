import java.util.ArrayList;
import java.util.Collections;
import java.util.LinkedHashMap;
import java.util.List;
import java.util.Map;
import java.util.TreeSet;

/**
 * The document told a second time, another way, for comparison: every question carries its own
 * window, rows or sides along with the events instead of looking back over all of them.
 */
final class Model {
    static final class Event {
        final int type;
        final int a;
        final int b;
        final int time;
        final int number;

        Event(int type, int a, int b, int time, int number) {
            this.type = type;
            this.a = a;
            this.b = b;
            this.time = time;
            this.number = number;
        }
    }

    /** A beginning of a row: its events so far, and whether nothing may follow any more. */
    static final class Row {
        final List<Event> events = new ArrayList<>();
        boolean broken = false;

        Row copy() {
            Row r = new Row();
            r.events.addAll(events);
            r.broken = broken;
            return r;
        }
    }

    static final class Question {
        char sort;
        int n;
        int m;
        int view;
        int total;
        int stop;
        boolean grouped;
        boolean equal;
        boolean once;
        List<int[][]> conditions;
        int least = Integer.MIN_VALUE;
        int rate = 1;
        int route = 4;
        int counted = 0;
        List<Integer> outputs = new ArrayList<>();
        List<Event> members = new ArrayList<>();
        List<Event> left = new ArrayList<>();
        List<Event> right = new ArrayList<>();
        List<Row> rows = new ArrayList<>();
        TreeSet<Integer> ended = new TreeSet<>();

        Question bare() {
            Question q = new Question();
            q.sort = sort;
            q.n = n;
            q.m = m;
            q.view = view;
            q.total = total;
            q.stop = stop;
            q.grouped = grouped;
            q.equal = equal;
            q.once = once;
            q.conditions = conditions;
            q.least = least;
            q.rate = rate;
            q.route = route;
            return q;
        }

        Question copy() {
            Question q = bare();
            q.counted = counted;
            q.outputs.addAll(outputs);
            q.members.addAll(members);
            q.left.addAll(left);
            q.right.addAll(right);
            for (Row r : rows) {
                q.rows.add(r.copy());
            }
            q.ended.addAll(ended);
            return q;
        }

        Integer see(Event e) {
            switch (sort) {
                case 'w':
                    return windowSees(e);
                case 'p':
                    return patternSees(e);
                default:
                    return joinSees(e);
            }
        }

        private boolean meets(int which, Event e) {
            return Model.meets(conditions.get(which), e);
        }

        private Integer windowSees(Event e) {
            if (!meets(0, e)) {
                return null;
            }
            if (view == 5 && !members.isEmpty() && e.time - members.get(members.size() - 1).time >= n) {
                members.clear();
            }
            if (view == 4) {
                members.removeIf(o -> o.a == e.a);
            }
            members.add(e);
            if (view == 1 && members.size() > n) {
                members.remove(0);
            }
            if (view == 2) {
                members.removeIf(o -> e.time - o.time >= n);
            }
            if (view == 3 && members.size() < n) {
                return null;
            }
            List<Integer> bs = new ArrayList<>();
            for (Event o : members) {
                if (!grouped || o.a == e.a) {
                    bs.add(o.b);
                }
            }
            if (view == 3) {
                members.clear();
            }
            return total(bs);
        }

        private Integer total(List<Integer> bs) {
            List<Integer> ascending = new ArrayList<>(bs);
            Collections.sort(ascending);
            switch (total) {
                case 0:
                    return bs.size();
                case 1:
                    return (int) bs.stream().mapToLong(b -> b).sum();
                case 2:
                    return Collections.min(bs);
                case 3:
                    return Collections.max(bs);
                case 4:
                    return new TreeSet<>(bs).size();
                default:
                    return ascending.get((bs.size() - 1) / 2);
            }
        }

        private Integer patternSees(Event e) {
            List<Row> begun = new ArrayList<>();
            int matches = 0;
            TreeSet<Integer> endedNow = new TreeSet<>();
            for (Row r : rows) {
                Event first = r.events.get(0);
                if (r.broken || !meets(r.events.size(), e) || equal && first.a != e.a) {
                    continue;
                }
                if (r.events.size() + 1 < conditions.size()) {
                    Row longer = r.copy();
                    longer.events.add(e);
                    begun.add(longer);
                } else if (e.time - first.time < n && !(once && ended.contains(first.number))) {
                    matches++;
                    endedNow.add(first.number);
                }
            }
            if (e.type == stop) {
                for (Row r : rows) {
                    r.broken = true;
                }
            }
            if (meets(0, e)) {
                Row r = new Row();
                r.events.add(e);
                begun.add(r);
            }
            rows.addAll(begun);
            ended.addAll(endedNow);
            return matches == 0 ? null : matches;
        }

        private Integer joinSees(Event e) {
            boolean first = meets(0, e);
            boolean second = meets(1, e);
            if (first) {
                left.add(e);
            }
            if (second) {
                right.add(e);
            }
            while (left.size() > n) {
                left.remove(0);
            }
            while (right.size() > m) {
                right.remove(0);
            }
            if (!first && !second) {
                return null;
            }
            Integer sum = null;
            for (Event o : first ? right : left) {
                if (o != e && o.a == e.a) {
                    sum = (sum == null ? 0 : sum) + o.b;
                }
            }
            return sum;
        }
    }

    static final class State {
        Map<Integer, Question> questions = new LinkedHashMap<>();
        int happened = 0;
        int lost = 0;
        int time = 0;
        int given = 0;

        State copy() {
            State s = new State();
            questions.forEach((slot, q) -> s.questions.put(slot, q.copy()));
            s.happened = happened;
            s.lost = lost;
            s.time = time;
            s.given = given;
            return s;
        }
    }

    private List<int[]> program = new ArrayList<>();
    private List<int[][]> list = new ArrayList<>();
    private State now = new State();
    private State kept = null;

    static boolean meets(int[][] condition, Event e) {
        List<Integer> stack = new ArrayList<>();
        for (int[] term : condition) {
            int op = term[0];
            if (op <= 4) {
                stack.add(new int[] {term[1], e.a, e.b, e.type, e.time}[op]);
                continue;
            }
            int y = stack.remove(stack.size() - 1);
            if (op == 12) {
                stack.add(y == 0 ? 1 : 0);
                continue;
            }
            int x = stack.remove(stack.size() - 1);
            stack.add(result(op, x, y));
        }
        return stack.get(0) != 0;
    }

    private static int result(int op, int x, int y) {
        long wide;
        switch (op) {
            case 5:
                wide = (long) x + y;
                break;
            case 6:
                wide = (long) x - y;
                break;
            case 7:
                wide = (long) x * y;
                break;
            case 8:
                wide = x < y ? 1 : 0;
                break;
            case 9:
                wide = x == y ? 1 : 0;
                break;
            case 10:
                wide = x == 0 || y == 0 ? 0 : 1;
                break;
            case 11:
                wide = x == 0 && y == 0 ? 0 : 1;
                break;
            default:
                wide = y == 0 ? 0 : (long) x - (long) x / y * y;
                break;
        }
        return (int) wide;
    }

    boolean term(int op, int value) {
        if (op < 0 || op > 13 || program.size() == 12) {
            return false;
        }
        program.add(new int[] {op, value});
        return true;
    }

    boolean condition() {
        int depth = 0;
        for (int[] term : program) {
            int takes = term[0] < 5 ? 0 : term[0] == 12 ? 1 : 2;
            if (takes > depth) {
                return false;
            }
            depth = depth - takes + 1;
        }
        if (depth != 1 || list.size() == 3) {
            return false;
        }
        list.add(program.toArray(new int[0][]));
        program = new ArrayList<>();
        return true;
    }

    int drop() {
        int count = program.size() + list.size();
        program = new ArrayList<>();
        list = new ArrayList<>();
        return count;
    }

    private static boolean within(int x, int low, int high) {
        return low <= x && x <= high;
    }

    private boolean set(int slot, Question q) {
        q.conditions = list;
        list = new ArrayList<>();
        now.questions.put(slot, q);
        return true;
    }

    boolean window(int slot, int view, int n, int total, boolean grouped) {
        int most = view == 1 || view == 3 ? 16 : 100;
        boolean sized = view == 0 || view == 4 || within(n, 1, most);
        if (!within(slot, 0, 5) || list.size() != 1 || !within(view, 0, 5) || !sized || !within(total, 0, 5)) {
            return false;
        }
        Question q = new Question();
        q.sort = 'w';
        q.view = view;
        q.n = n;
        q.total = total;
        q.grouped = grouped;
        return set(slot, q);
    }

    boolean pattern(int slot, int n, int stop, boolean equal, boolean once) {
        if (!within(slot, 0, 5) || !within(list.size(), 2, 3) || !within(n, 1, 1000) || !within(stop, 0, 4)) {
            return false;
        }
        Question q = new Question();
        q.sort = 'p';
        q.n = n;
        q.stop = stop;
        q.equal = equal;
        q.once = once;
        return set(slot, q);
    }

    boolean join(int slot, int n, int m) {
        if (!within(slot, 0, 5) || list.size() != 2 || !within(n, 1, 16) || !within(m, 1, 16)) {
            return false;
        }
        Question q = new Question();
        q.sort = 'j';
        q.n = n;
        q.m = m;
        return set(slot, q);
    }

    boolean giving(int slot, int least, int rate, int route) {
        Question q = now.questions.get(slot);
        if (q == null || !within(rate, 1, 8) || !within(route, 0, 4)) {
            return false;
        }
        q.least = least;
        q.rate = rate;
        q.route = route;
        return true;
    }

    boolean remove(int slot) {
        return now.questions.remove(slot) != null;
    }

    int send(int type, int a, int b) {
        if (!within(type, 0, 3) || now.happened == 64) {
            return -1;
        }
        int before = now.given;
        List<Event> line = new ArrayList<>();
        line.add(new Event(type, a, b, now.time, now.happened));
        while (!line.isEmpty()) {
            Event e = line.remove(0);
            now.happened++;
            for (int slot = 0; slot < 6; slot++) {
                Question q = now.questions.get(slot);
                Integer value = q == null ? null : q.see(e);
                if (value == null || value <= q.least) {
                    continue;
                }
                q.counted++;
                if (q.counted % q.rate != 0) {
                    continue;
                }
                q.outputs.add(value);
                now.given++;
                if (q.route < 4 && now.happened + line.size() < 64) {
                    line.add(new Event(q.route, slot, value, now.time, now.happened + line.size()));
                } else if (q.route < 4) {
                    now.lost++;
                }
            }
        }
        return now.given - before;
    }

    int advance(int d) {
        if (!within(d, 0, 100)) {
            return -1;
        }
        now.time += d;
        return now.time;
    }

    void keep() {
        kept = now.copy();
    }

    boolean restore() {
        if (kept == null) {
            return false;
        }
        now = kept.copy();
        return true;
    }

    int clear() {
        int happened = now.happened;
        State fresh = new State();
        now.questions.forEach((slot, q) -> fresh.questions.put(slot, q.bare()));
        now = fresh;
        return happened;
    }

    int given(int slot, int what) {
        Question q = now.questions.get(slot);
        if (q == null || !within(what, 0, 1)) {
            return -1;
        }
        return what == 0 ? q.outputs.size() : q.counted;
    }

    int output(int slot, int k) {
        Question q = now.questions.get(slot);
        if (q == null || !within(k, 0, 7) || k >= q.outputs.size()) {
            return 0;
        }
        return q.outputs.get(q.outputs.size() - 1 - k);
    }

    int state(int what) {
        int[] all = {now.happened, now.lost, now.time, now.given};
        return within(what, 0, 3) ? all[what] : -1;
    }
}
