/** Standing questions over a stream of events; ../shared/DOC.md says what each call promises. */
public final class EventDesk {
    private static final int SLOTS = 6;
    private static final int MOST_EVENTS = 64;
    private static final int MOST_TERMS = 12;
    private static final int MOST_CONDITIONS = 3;
    private static final int MOST_OUTPUTS = 8;
    private static final int LAST_TYPE = 3;
    private static final int NO_TYPE = 4;
    private static final int LOWEST = -2147483648;

    // No int is this number, so it can stand beside every output.
    private static final long NO_OUTPUT = 1L << 40;

    private static final int OP_VALUE = 0;
    private static final int OP_A = 1;
    private static final int OP_B = 2;
    private static final int OP_TYPE = 3;
    private static final int OP_TIME = 4;
    private static final int OP_PLUS = 5;
    private static final int OP_MINUS = 6;
    private static final int OP_TIMES = 7;
    private static final int OP_LESS = 8;
    private static final int OP_SAME = 9;
    private static final int OP_BOTH = 10;
    private static final int OP_EITHER = 11;
    private static final int OP_NOT = 12;
    private static final int OP_REST = 13;

    private static final int VIEW_ALL = 0;
    private static final int VIEW_LATEST = 1;
    private static final int VIEW_YOUNG = 2;
    private static final int VIEW_BATCH = 3;
    private static final int VIEW_LATEST_OF_EACH = 4;
    private static final int VIEW_SINCE_PAUSE = 5;

    private static final int TOTAL_NUMBER = 0;
    private static final int TOTAL_SUM = 1;
    private static final int TOTAL_LEAST = 2;
    private static final int TOTAL_GREATEST = 3;
    private static final int TOTAL_DIFFERENT = 4;
    private static final int TOTAL_MIDDLE = 5;

    // A condition in an array of ints: the number of its terms, their ops, their values.
    private static final int OPS = 1;
    private static final int VALUES = OPS + MOST_TERMS;
    private static final int CONDITION_SIZE = VALUES + MOST_TERMS;
    private static final int LIST_SIZE = MOST_CONDITIONS * CONDITION_SIZE;

    // The sorts of question; 0 is what a new array holds.
    private static final int NO_QUESTION = 0;
    private static final int WINDOW = 1;
    private static final int PATTERN = 2;
    private static final int JOIN = 3;

    // Where a question's parts stand, counted from its slot's place in the array of questions.
    private static final int SORT = 0;
    private static final int SIZE = 1;
    private static final int RIGHT_SIZE = 2;
    private static final int VIEW = 3;
    private static final int TOTAL = 4;
    private static final int GROUPED = 5;
    private static final int STOP = 6;
    private static final int EQUAL = 7;
    private static final int ONCE = 8;
    private static final int LEAST = 9;
    private static final int RATE = 10;
    private static final int ROUTE = 11;
    private static final int FIRST_SEEN = 12;
    private static final int COUNTED = 13;
    private static final int GIVEN = 14;
    private static final int OUTPUTS = 15;
    private static final int CONDITION_COUNT = OUTPUTS + MOST_OUTPUTS;
    private static final int CONDITIONS = CONDITION_COUNT + 1;
    private static final int QUESTION_SIZE = CONDITIONS + LIST_SIZE;
    private static final int QUESTIONS_SIZE = SLOTS * QUESTION_SIZE;

    // The figures stand in the order in which state() numbers them.
    private static final int HAPPENED = 0;
    private static final int LOST = 1;
    private static final int TIME = 2;
    private static final int GIVEN_IN_ALL = 3;
    private static final int FIGURES = 4;

    private final int[] program = new int[CONDITION_SIZE];
    private final int[] list = new int[LIST_SIZE];
    private int listed = 0;

    private final int[] figures = new int[FIGURES];
    private final int[] questions = new int[QUESTIONS_SIZE];
    private final int[] eventType = new int[MOST_EVENTS];
    private final int[] eventA = new int[MOST_EVENTS];
    private final int[] eventB = new int[MOST_EVENTS];
    private final int[] eventTime = new int[MOST_EVENTS];
    // A bit for each condition of each slot that the event met.
    private final int[] eventMet = new int[MOST_EVENTS];
    // A bit for each slot whose pattern had a match that began with the event.
    private final int[] eventBegan = new int[MOST_EVENTS];
    // Waiting events stand behind those that happened; between two calls there are none.
    private int waiting = 0;

    private boolean isKept = false;
    private final int[] keptFigures = new int[FIGURES];
    private final int[] keptQuestions = new int[QUESTIONS_SIZE];
    private final int[] keptType = new int[MOST_EVENTS];
    private final int[] keptA = new int[MOST_EVENTS];
    private final int[] keptB = new int[MOST_EVENTS];
    private final int[] keptTime = new int[MOST_EVENTS];
    private final int[] keptMet = new int[MOST_EVENTS];
    private final int[] keptBegan = new int[MOST_EVENTS];

    private final int[] stack = new int[MOST_TERMS];
    private final int[] sorted = new int[MOST_EVENTS];

    public EventDesk() {
    }

    // ---- The program and the list of conditions

    public boolean term(int op, int value) {
        int terms = program[0];
        if (op < OP_VALUE || op > OP_REST || terms >= MOST_TERMS) {
            return false;
        }
        program[OPS + terms] = op;
        program[VALUES + terms] = value;
        program[0] = terms + 1;
        return true;
    }

    public boolean condition() {
        if (listed >= MOST_CONDITIONS || !leavesOneValue()) {
            return false;
        }
        copy(program, 0, list, listed * CONDITION_SIZE, CONDITION_SIZE);
        listed++;
        program[0] = 0;
        return true;
    }

    public int drop() {
        int dropped = program[0] + listed;
        program[0] = 0;
        listed = 0;
        return dropped;
    }

    private boolean leavesOneValue() {
        int terms = program[0];
        int depth = 0;
        for (int i = 0; i < terms; i++) {
            int op = program[OPS + i];
            if (depth < takenBy(op)) {
                return false;
            }
            depth += 1 - takenBy(op);
        }
        return depth == 1;
    }

    private static int takenBy(int op) {
        if (op <= OP_TIME) {
            return 0;
        }
        return op == OP_NOT ? 1 : 2;
    }

    private static void copy(int[] from, int fromAt, int[] to, int toAt, int count) {
        for (int i = 0; i < count; i++) {
            to[toAt + i] = from[fromAt + i];
        }
    }

    // ---- Setting, changing and removing questions

    public boolean window(int slot, int view, int n, int total, boolean grouped) {
        if (!isSlot(slot) || listed != 1 || !isWindowSize(view, n)) {
            return false;
        }
        if (total < TOTAL_NUMBER || total > TOTAL_MIDDLE) {
            return false;
        }
        setQuestion(slot, WINDOW, n);
        int at = slot * QUESTION_SIZE;
        questions[at + VIEW] = view;
        questions[at + TOTAL] = total;
        questions[at + GROUPED] = grouped ? 1 : 0;
        return true;
    }

    public boolean pattern(int slot, int n, int stop, boolean equal, boolean once) {
        if (!isSlot(slot) || listed < 2 || n < 1 || n > 1000 || stop < 0 || stop > NO_TYPE) {
            return false;
        }
        setQuestion(slot, PATTERN, n);
        int at = slot * QUESTION_SIZE;
        questions[at + STOP] = stop;
        questions[at + EQUAL] = equal ? 1 : 0;
        questions[at + ONCE] = once ? 1 : 0;
        return true;
    }

    public boolean join(int slot, int n, int m) {
        if (!isSlot(slot) || listed != 2 || n < 1 || n > 16 || m < 1 || m > 16) {
            return false;
        }
        setQuestion(slot, JOIN, n);
        questions[slot * QUESTION_SIZE + RIGHT_SIZE] = m;
        return true;
    }

    public boolean giving(int slot, int least, int rate, int route) {
        if (!hasQuestion(slot) || rate < 1 || rate > 8 || route < 0 || route > NO_TYPE) {
            return false;
        }
        int at = slot * QUESTION_SIZE;
        questions[at + LEAST] = least;
        questions[at + RATE] = rate;
        questions[at + ROUTE] = route;
        return true;
    }

    public boolean remove(int slot) {
        if (!hasQuestion(slot)) {
            return false;
        }
        questions[slot * QUESTION_SIZE + SORT] = NO_QUESTION;
        return true;
    }

    private static boolean isSlot(int slot) {
        return slot >= 0 && slot < SLOTS;
    }

    private boolean hasQuestion(int slot) {
        return isSlot(slot) && questions[slot * QUESTION_SIZE + SORT] != NO_QUESTION;
    }

    private static boolean isWindowSize(int view, int n) {
        switch (view) {
            case VIEW_ALL:
            case VIEW_LATEST_OF_EACH:
                return true;
            case VIEW_LATEST:
            case VIEW_BATCH:
                return n >= 1 && n <= 16;
            case VIEW_YOUNG:
            case VIEW_SINCE_PAUSE:
                return n >= 1 && n <= 100;
            default:
                return false;
        }
    }

    private void setQuestion(int slot, int sort, int n) {
        int at = slot * QUESTION_SIZE;
        questions[at + SORT] = sort;
        questions[at + SIZE] = n;
        questions[at + LEAST] = LOWEST;
        questions[at + RATE] = 1;
        questions[at + ROUTE] = NO_TYPE;
        questions[at + CONDITION_COUNT] = listed;
        copy(list, 0, questions, at + CONDITIONS, LIST_SIZE);
        listed = 0;
        seeFromNowOn(slot);
    }

    private void seeFromNowOn(int slot) {
        int at = slot * QUESTION_SIZE;
        questions[at + FIRST_SEEN] = figures[HAPPENED];
        questions[at + COUNTED] = 0;
        questions[at + GIVEN] = 0;
    }

    // ---- Events and the clock

    public int send(int type, int a, int b) {
        if (type < 0 || type > LAST_TYPE || figures[HAPPENED] >= MOST_EVENTS) {
            return -1;
        }
        int before = figures[GIVEN_IN_ALL];
        addEvent(type, a, b);
        for (int turn = 0; turn < MOST_EVENTS && waiting > 0; turn++) {
            int event = figures[HAPPENED];
            waiting--;
            figures[HAPPENED]++;
            for (int slot = 0; slot < SLOTS; slot++) {
                ask(slot, event);
            }
        }
        return figures[GIVEN_IN_ALL] - before;
    }

    public int advance(int d) {
        if (d < 0 || d > 100) {
            return -1;
        }
        figures[TIME] += d;
        return figures[TIME];
    }

    private void addEvent(int type, int a, int b) {
        int event = figures[HAPPENED] + waiting;
        if (event >= MOST_EVENTS) {
            figures[LOST]++;
            return;
        }
        eventType[event] = type;
        eventA[event] = a;
        eventB[event] = b;
        eventTime[event] = figures[TIME];
        eventMet[event] = 0;
        eventBegan[event] = 0;
        waiting++;
    }

    private void ask(int slot, int event) {
        if (!hasQuestion(slot)) {
            return;
        }
        noteConditionsMet(slot, event);
        long found = findOutput(slot, event);
        if (found != NO_OUTPUT && found > questions[slot * QUESTION_SIZE + LEAST]) {
            countOutput(slot, (int) found);
        }
    }

    private long findOutput(int slot, int event) {
        switch (questions[slot * QUESTION_SIZE + SORT]) {
            case WINDOW:
                return findWindowOutput(slot, event);
            case PATTERN:
                return findPatternOutput(slot, event);
            case JOIN:
                return findJoinOutput(slot, event);
            default:
                return NO_OUTPUT;
        }
    }

    private void countOutput(int slot, int value) {
        int at = slot * QUESTION_SIZE;
        questions[at + COUNTED]++;
        if (questions[at + COUNTED] % questions[at + RATE] != 0) {
            return;
        }
        questions[at + OUTPUTS + questions[at + GIVEN] % MOST_OUTPUTS] = value;
        questions[at + GIVEN]++;
        figures[GIVEN_IN_ALL]++;
        if (questions[at + ROUTE] != NO_TYPE) {
            addEvent(questions[at + ROUTE], slot, value);
        }
    }

    // ---- Conditions

    private static int metBit(int slot, int which) {
        return 1 << (slot * MOST_CONDITIONS + which);
    }

    private void noteConditionsMet(int slot, int event) {
        int count = questions[slot * QUESTION_SIZE + CONDITION_COUNT];
        for (int which = 0; which < count; which++) {
            if (meets(slot, which, event)) {
                eventMet[event] |= metBit(slot, which);
            }
        }
    }

    private boolean meets(int slot, int which, int event) {
        int at = slot * QUESTION_SIZE + CONDITIONS + which * CONDITION_SIZE;
        int terms = questions[at];
        int depth = 0;
        // condition() has let only programs through that never take off more than there is.
        for (int i = 0; i < terms; i++) {
            int op = questions[at + OPS + i];
            int taken = takenBy(op);
            if (taken == 0) {
                stack[depth] = freshValue(op, questions[at + VALUES + i], event);
            } else if (taken == 1) {
                stack[depth - 1] = stack[depth - 1] == 0 ? 1 : 0;
            } else {
                stack[depth - 2] = combined(op, stack[depth - 2], stack[depth - 1]);
            }
            depth += 1 - taken;
        }
        return stack[0] != 0;
    }

    private int freshValue(int op, int value, int event) {
        switch (op) {
            case OP_A:
                return eventA[event];
            case OP_B:
                return eventB[event];
            case OP_TYPE:
                return eventType[event];
            case OP_TIME:
                return eventTime[event];
            default:
                return value;
        }
    }

    private static int combined(int op, int x, int y) {
        switch (op) {
            case OP_PLUS:
                return x + y;
            case OP_MINUS:
                return x - y;
            case OP_TIMES:
                return x * y;
            case OP_LESS:
                return x < y ? 1 : 0;
            case OP_SAME:
                return x == y ? 1 : 0;
            case OP_BOTH:
                return x != 0 && y != 0 ? 1 : 0;
            case OP_EITHER:
                return x != 0 || y != 0 ? 1 : 0;
            default:
                return y == 0 ? 0 : x % y;
        }
    }

    // ---- Windows

    private long findWindowOutput(int slot, int event) {
        int at = slot * QUESTION_SIZE;
        int bit = metBit(slot, 0);
        if ((eventMet[event] & bit) == 0) {
            return NO_OUTPUT;
        }
        if (questions[at + VIEW] == VIEW_BATCH && !fillsBatch(at, bit, event)) {
            return NO_OUTPUT;
        }
        int count = sortView(at, bit, event);
        return totalOfSorted(questions[at + TOTAL], count);
    }

    private boolean fillsBatch(int at, int bit, int event) {
        int inBatch = 0;
        for (int i = questions[at + FIRST_SEEN]; i <= event; i++) {
            if (inBatch == questions[at + SIZE]) {
                inBatch = 0;
            }
            if ((eventMet[i] & bit) != 0) {
                inBatch++;
            }
        }
        return inBatch == questions[at + SIZE];
    }

    /** Puts the b of what the total is over into the sorted array; answers how many they are. */
    private int sortView(int at, int bit, int event) {
        boolean latestOfEach = questions[at + VIEW] == VIEW_LATEST_OF_EACH;
        boolean grouped = questions[at + GROUPED] == 1;
        int count = 0;
        int members = 0;
        int later = event;
        for (int i = event; i >= questions[at + FIRST_SEEN]; i--) {
            if ((eventMet[i] & bit) == 0) {
                continue;
            }
            if (isBeforeView(at, i, later, event, members)) {
                break;
            }
            members++;
            later = i;
            boolean outdated = latestOfEach && hasLaterWithSameA(bit, i, event);
            if (!outdated && (!grouped || eventA[i] == eventA[event])) {
                insertSorted(eventB[i], count);
                count++;
            }
        }
        return count;
    }

    /** later: the member that follows member i; members: how many follow it up to the event. */
    private boolean isBeforeView(int at, int i, int later, int event, int members) {
        int n = questions[at + SIZE];
        switch (questions[at + VIEW]) {
            case VIEW_LATEST:
            case VIEW_BATCH:
                return members >= n;
            case VIEW_YOUNG:
                return eventTime[event] - eventTime[i] >= n;
            case VIEW_SINCE_PAUSE:
                return eventTime[later] - eventTime[i] >= n;
            default:
                return false;
        }
    }

    private boolean hasLaterWithSameA(int bit, int i, int event) {
        for (int j = i + 1; j <= event; j++) {
            if ((eventMet[j] & bit) != 0 && eventA[j] == eventA[i]) {
                return true;
            }
        }
        return false;
    }

    private void insertSorted(int value, int count) {
        int place = count;
        while (place > 0 && sorted[place - 1] > value) {
            sorted[place] = sorted[place - 1];
            place--;
        }
        sorted[place] = value;
    }

    private int totalOfSorted(int total, int count) {
        switch (total) {
            case TOTAL_SUM:
                return sumOfSorted(count);
            case TOTAL_LEAST:
                return sorted[0];
            case TOTAL_GREATEST:
                return sorted[count - 1];
            case TOTAL_DIFFERENT:
                return differentOfSorted(count);
            case TOTAL_MIDDLE:
                return sorted[(count - 1) / 2];
            default:
                return count;
        }
    }

    private int sumOfSorted(int count) {
        int sum = 0;
        for (int i = 0; i < count; i++) {
            sum += sorted[i];
        }
        return sum;
    }

    private int differentOfSorted(int count) {
        int different = 1;
        for (int i = 1; i < count; i++) {
            if (sorted[i] != sorted[i - 1]) {
                different++;
            }
        }
        return different;
    }

    // ---- Patterns

    private long findPatternOutput(int slot, int event) {
        int at = slot * QUESTION_SIZE;
        int last = questions[at + CONDITION_COUNT] - 1;
        if ((eventMet[event] & metBit(slot, last)) == 0) {
            return NO_OUTPUT;
        }
        int latestStop = latestOfTypeBefore(questions[at + STOP], event);
        int matches = 0;
        for (int first = questions[at + FIRST_SEEN]; first < event; first++) {
            if (!mayBeginRow(slot, first, event)) {
                continue;
            }
            int rows = latestStop <= first ? 1 : 0;
            if (last == 2) {
                rows = middlesOfRows(slot, first, event, latestStop);
            }
            if (rows > 0) {
                eventBegan[first] |= 1 << slot;
                matches += rows;
            }
        }
        return matches == 0 ? NO_OUTPUT : matches;
    }

    /** -1 if there is none, so that every event stands behind it. */
    private int latestOfTypeBefore(int type, int event) {
        for (int i = event - 1; i >= 0; i--) {
            if (eventType[i] == type) {
                return i;
            }
        }
        return -1;
    }

    private boolean mayBeginRow(int slot, int first, int event) {
        int at = slot * QUESTION_SIZE;
        if ((eventMet[first] & metBit(slot, 0)) == 0) {
            return false;
        }
        if (eventTime[event] - eventTime[first] >= questions[at + SIZE]) {
            return false;
        }
        if (questions[at + EQUAL] == 1 && eventA[first] != eventA[event]) {
            return false;
        }
        return questions[at + ONCE] == 0 || (eventBegan[first] & 1 << slot) == 0;
    }

    private int middlesOfRows(int slot, int first, int event, int latestStop) {
        int at = slot * QUESTION_SIZE;
        int bit = metBit(slot, 1);
        boolean equal = questions[at + EQUAL] == 1;
        int middles = 0;
        for (int i = first + 1; i < event; i++) {
            boolean fits = (eventMet[i] & bit) != 0 && (!equal || eventA[i] == eventA[event]);
            if (fits && latestStop <= i) {
                middles++;
            }
            // Every later middle would have this event between itself and the first.
            if (eventType[i] == questions[at + STOP]) {
                break;
            }
        }
        return middles;
    }

    // ---- Joins

    private long findJoinOutput(int slot, int event) {
        int at = slot * QUESTION_SIZE;
        if ((eventMet[event] & metBit(slot, 0)) != 0) {
            return sumOfSide(slot, 1, questions[at + RIGHT_SIZE], event);
        }
        if ((eventMet[event] & metBit(slot, 1)) != 0) {
            return sumOfSide(slot, 0, questions[at + SIZE], event);
        }
        return NO_OUTPUT;
    }

    private long sumOfSide(int slot, int side, int size, int event) {
        int bit = metBit(slot, side);
        int first = questions[slot * QUESTION_SIZE + FIRST_SEEN];
        int members = 0;
        int pairs = 0;
        int sum = 0;
        for (int i = event; i >= first && members < size; i--) {
            if ((eventMet[i] & bit) == 0) {
                continue;
            }
            // The event itself takes a place on the side, though it makes no pair.
            members++;
            if (i != event && eventA[i] == eventA[event]) {
                pairs++;
                sum += eventB[i];
            }
        }
        return pairs == 0 ? NO_OUTPUT : sum;
    }

    // ---- Keeping, taking back, forgetting

    public void keep() {
        copy(figures, 0, keptFigures, 0, FIGURES);
        copy(questions, 0, keptQuestions, 0, QUESTIONS_SIZE);
        copy(eventType, 0, keptType, 0, MOST_EVENTS);
        copy(eventA, 0, keptA, 0, MOST_EVENTS);
        copy(eventB, 0, keptB, 0, MOST_EVENTS);
        copy(eventTime, 0, keptTime, 0, MOST_EVENTS);
        copy(eventMet, 0, keptMet, 0, MOST_EVENTS);
        copy(eventBegan, 0, keptBegan, 0, MOST_EVENTS);
        isKept = true;
    }

    public boolean restore() {
        if (!isKept) {
            return false;
        }
        copy(keptFigures, 0, figures, 0, FIGURES);
        copy(keptQuestions, 0, questions, 0, QUESTIONS_SIZE);
        copy(keptType, 0, eventType, 0, MOST_EVENTS);
        copy(keptA, 0, eventA, 0, MOST_EVENTS);
        copy(keptB, 0, eventB, 0, MOST_EVENTS);
        copy(keptTime, 0, eventTime, 0, MOST_EVENTS);
        copy(keptMet, 0, eventMet, 0, MOST_EVENTS);
        copy(keptBegan, 0, eventBegan, 0, MOST_EVENTS);
        return true;
    }

    public int clear() {
        int happened = figures[HAPPENED];
        for (int i = 0; i < FIGURES; i++) {
            figures[i] = 0;
        }
        for (int slot = 0; slot < SLOTS; slot++) {
            seeFromNowOn(slot);
        }
        return happened;
    }

    // ---- What can be asked

    public int given(int slot, int what) {
        if (!hasQuestion(slot)) {
            return -1;
        }
        switch (what) {
            case 0:
                return questions[slot * QUESTION_SIZE + GIVEN];
            case 1:
                return questions[slot * QUESTION_SIZE + COUNTED];
            default:
                return -1;
        }
    }

    public int output(int slot, int k) {
        if (!hasQuestion(slot) || k < 0 || k >= MOST_OUTPUTS) {
            return 0;
        }
        int at = slot * QUESTION_SIZE;
        if (k >= questions[at + GIVEN]) {
            return 0;
        }
        return questions[at + OUTPUTS + (questions[at + GIVEN] - 1 - k) % MOST_OUTPUTS];
    }

    public int state(int what) {
        return what >= 0 && what < FIGURES ? figures[what] : -1;
    }
}
