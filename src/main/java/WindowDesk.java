/**
 * A desk of windows: tasks that need so much of one resource for so long, each between an earliest
 * beginning and a latest end. The words in comments are those of the document.
 */
public final class WindowDesk {
    public static final int BAD = -1, STATE = -2, FULL = -3, NONE = -9;

    private static final int MOST_TASKS = 5;
    private static final int MOST_SETS = 1 << MOST_TASKS;
    private static final int END = 16;
    private static final int FIRST_ROOM = 3;
    private static final int MOST_ROOM = 20;
    private static final int MOST_EACH = 9;
    private static final int MOST_LETTERS = 100;
    private static final int MOST_UNDONE = 10;
    private static final int MOST_SCHEDULES = 9999;
    private static final int IMAGES = 2;
    private static final int TEN = 10;

    private static final int EARLY = 0;
    private static final int LATE = 1;

    private static final int MUST = 0;
    private static final int EDGE = 1;
    private static final int FIRST = 2;
    private static final int SPAN = 3;
    private static final int ALL = 4;

    private final Text text = new Text();
    private final Tasks tasks = new Tasks();
    private final Tasks toldTasks = new Tasks();
    private final Windows now = new Windows();
    private final Windows toldWindows = new Windows();
    private final Windows[] images = new Windows[IMAGES];
    private final boolean[] kept = new boolean[IMAGES];
    private final History history = new History();
    private final Sight sight = new Sight(tasks);
    private final Rules rules = new Rules(tasks, sight);
    private final Search search = new Search(tasks);

    public WindowDesk() {
        for (int image = 0; image < IMAGES; image++) {
            images[image] = new Windows();
        }
    }

    // ---- the desk

    public int type(int letter) {
        if (letter < 0 || letter > 255) {
            return BAD;
        }
        return text.add(letter) ? text.length : FULL;
    }

    public int clear() {
        int had = text.length;
        text.length = 0;
        return had;
    }

    public int desk() {
        // Read into spare rows first: a fault must leave everything as it was.
        int items = text.read(toldTasks, toldWindows);
        if (items < 0) {
            return items;
        }
        tasks.take(toldTasks);
        now.take(toldWindows);
        text.length = 0;
        history.known = 0;
        for (int image = 0; image < IMAGES; image++) {
            kept[image] = false;
        }
        return items;
    }

    public int task(int i, int what) {
        if (!tasks.has(i)) {
            return BAD;
        }
        switch (what) {
            case 0:
                return now.edge(i, EARLY);
            case 1:
                return now.edge(i, LATE);
            case 2:
                return tasks.lasting[i];
            case 3:
                return tasks.need[i];
            case 4:
                return search.belong(now, i);
            case 5:
                return search.firstOf(now, i);
            default:
                return BAD;
        }
    }

    public int why(int i, int side, int what) {
        if (!tasks.has(i) || !isZeroOrOne(side) || !isZeroOrOne(what)) {
            return BAD;
        }
        return what == 0 ? now.ruleOf(i, side) : now.causeOf(i, side);
    }

    public int must(int time) {
        if (time < 0 || time >= END) {
            return BAD;
        }
        sight.look(now, EARLY);
        return sight.surely(time, NONE);
    }

    // ---- what is done

    public int tightens(int rule) {
        if (rule < MUST || rule > ALL) {
            return BAD;
        }
        if (now.isBroken(tasks)) {
            return STATE;
        }
        history.add(now);
        if (rule == ALL) {
            rules.tightenByAll(now);
        } else {
            rules.tighten(rule, now);
        }
        return now.others(history.latest(), tasks.number);
    }

    public int puts(int i, int side, int v) {
        if (!tasks.has(i) || !isZeroOrOne(side) || v < 0 || v > END) {
            return BAD;
        }
        if (now.isBroken(tasks) || !mayPut(i, side, v)) {
            return STATE;
        }
        history.add(now);
        int was = now.edge(i, side);
        now.move(i, side, v, NONE, NONE);
        return was;
    }

    public int undo() {
        if (history.known == 0) {
            return STATE;
        }
        history.giveBack(now);
        return history.known;
    }

    // ---- what there is

    public int wrap(int set) {
        if (set == 0 || !tasks.hasSet(set)) {
            return BAD;
        }
        sight.look(now, EARLY);
        return sight.wrapOf(set);
    }

    public int grey(int set, int other, int what) {
        if (!tasks.hasSet(set) || !tasks.hasSet(other) || other == 0) {
            return BAD;
        }
        if ((set & other) != 0 || !isZeroOrOne(what)) {
            return BAD;
        }
        sight.look(now, EARLY);
        int which = sight.greyest(set, other);
        return what == 0 ? sight.wrapOf(set | 1 << which) : which;
    }

    public int odds(int x, int what) {
        if (x < 0 || x > TEN || !isZeroOrOne(what)) {
            return BAD;
        }
        int upper = search.luckyOf(now, x);
        int lower = power(TEN, tasks.number);
        int divisor = commonDivisor(upper, lower);
        if (divisor <= 0) {
            return BAD;
        }
        return what == 0 ? upper / divisor : lower / divisor;
    }

    // ---- images

    public int keep(int image) {
        if (!isZeroOrOne(image)) {
            return BAD;
        }
        images[image].take(now);
        kept[image] = true;
        return tasks.number;
    }

    public int back(int image) {
        if (!isZeroOrOne(image)) {
            return BAD;
        }
        if (!kept[image]) {
            return STATE;
        }
        now.take(images[image]);
        history.known = 0;
        return tasks.number;
    }

    public int count(int what) {
        switch (what) {
            case 0:
                return tasks.number;
            case 1:
                return tasks.room;
            case 2:
                return now.isBroken(tasks) ? 1 : 0;
            case 3:
                return search.schedules(now);
            case 4:
                return search.shortest(now);
            case 5:
                sight.look(now, EARLY);
                return sight.heaviest();
            case 6:
                return tasks.energyOfAll();
            case 7:
                return text.length;
            case 8:
                return history.known;
            default:
                return BAD;
        }
    }

    private boolean mayPut(int i, int side, int v) {
        int early = now.edge(i, EARLY);
        int late = now.edge(i, LATE);
        if (side == EARLY) {
            return v > early && v + tasks.lasting[i] <= late;
        }
        return v < late && v - tasks.lasting[i] >= early;
    }

    private static boolean isZeroOrOne(int number) {
        return number == 0 || number == 1;
    }

    private static int power(int base, int times) {
        int product = 1;
        for (int k = 0; k < times; k++) {
            product *= base;
        }
        return product;
    }

    private static int commonDivisor(int a, int b) {
        int more = Math.max(a, b);
        int less = Math.min(a, b);
        // Each step makes the lesser number less, so there are never more of them than it is.
        for (int step = Math.min(a, b); step > 0 && less > 0; step--) {
            int rest = more % less;
            more = less;
            less = rest;
        }
        return more;
    }

    /** The letters told so far, and how they are read. */
    private static final class Text {
        private static final int NO_TOKEN = -1;
        private static final int NUMBER = -2;
        private static final int TOO_MUCH = 100;

        final int[] letters = new int[MOST_LETTERS];
        int length;
        private int place;
        private int token;
        private int tokenPlace;
        private int value;

        Text() {
        }

        boolean add(int letter) {
            if (length >= MOST_LETTERS) {
                return false;
            }
            letters[length] = letter;
            length++;
            return true;
        }

        /** How many items there are, or -10 less the fault. */
        int read(Tasks tasks, Windows windows) {
            tasks.forget();
            place = 0;
            for (int items = 0; items <= MOST_LETTERS; items++) {
                nextToken();
                if (tokenPlace >= length) {
                    return items;
                }
                boolean good = token == 'c' ? items == 0 && readRoom(tasks) : readTask(tasks, windows);
                if (!good || !readItemEnd()) {
                    return -10 - tokenPlace;
                }
            }
            return -10 - length;
        }

        private boolean readItemEnd() {
            nextToken();
            return token == ';';
        }

        private boolean readRoom(Tasks tasks) {
            if (!readNumber(1, MOST_ROOM)) {
                return false;
            }
            tasks.room = value;
            return true;
        }

        private boolean readTask(Tasks tasks, Windows windows) {
            if (token != 't' || tasks.number >= MOST_TASKS || !readNumber(0, END - 1)) {
                return false;
            }
            int early = value;
            if (!readNumber(early + 1, END)) {
                return false;
            }
            int late = value;
            if (!readNumber(1, Math.min(MOST_EACH, late - early))) {
                return false;
            }
            int lasting = value;
            if (!readNumber(1, Math.min(MOST_EACH, tasks.room))) {
                return false;
            }
            windows.open(tasks.number, early, late);
            tasks.add(lasting, value);
            return true;
        }

        private boolean readNumber(int least, int most) {
            nextToken();
            return token == NUMBER && value >= least && value <= most;
        }

        private void nextToken() {
            while (place < length && letters[place] == ' ') {
                place++;
            }
            tokenPlace = place;
            token = NO_TOKEN;
            if (place >= length) {
                return;
            }
            if (isDigit(letters[place])) {
                nextNumber();
            } else {
                token = letters[place];
                place++;
            }
        }

        private void nextNumber() {
            value = 0;
            while (place < length && isDigit(letters[place])) {
                // Stops growing at 100, which no number may be: a long one can not wrap round.
                value = Math.min(TOO_MUCH, value * 10 + letters[place] - '0');
                place++;
            }
            boolean zeroAhead = letters[tokenPlace] == '0' && place - tokenPlace > 1;
            token = zeroAhead ? NO_TOKEN : NUMBER;
        }

        private static boolean isDigit(int letter) {
            return letter >= '0' && letter <= '9';
        }
    }

    /** What is told of tasks and never changes by rules: the room, how long they run, what they need. */
    private static final class Tasks {
        int room = FIRST_ROOM;
        int number;
        final int[] lasting = new int[MOST_TASKS];
        final int[] need = new int[MOST_TASKS];

        Tasks() {
        }

        void forget() {
            room = FIRST_ROOM;
            number = 0;
        }

        void add(int howLong, int howMuch) {
            if (number < MOST_TASKS) {
                lasting[number] = howLong;
                need[number] = howMuch;
                number++;
            }
        }

        void take(Tasks other) {
            room = other.room;
            number = other.number;
            for (int i = 0; i < MOST_TASKS; i++) {
                lasting[i] = other.lasting[i];
                need[i] = other.need[i];
            }
        }

        boolean has(int i) {
            return i >= 0 && i < number;
        }

        boolean hasSet(int set) {
            return set >= 0 && set < 1 << number;
        }

        int energyOfAll() {
            int sum = 0;
            for (int i = 0; i < number; i++) {
                sum += energy(i);
            }
            return sum;
        }

        int energy(int i) {
            return lasting[i] * need[i];
        }
    }

    /** EARLY and LATE of each task, each with why. All that is undone or kept as an image is here. */
    private static final class Windows {
        private static final int PLACES = 2 * MOST_TASKS;

        private final int[] edges = new int[PLACES];
        private final int[] rulesOf = new int[PLACES];
        private final int[] causes = new int[PLACES];

        Windows() {
        }

        private static int placeOf(int i, int side) {
            return side * MOST_TASKS + i;
        }

        int edge(int i, int side) {
            return edges[placeOf(i, side)];
        }

        int ruleOf(int i, int side) {
            return rulesOf[placeOf(i, side)];
        }

        int causeOf(int i, int side) {
            return causes[placeOf(i, side)];
        }

        void open(int i, int early, int late) {
            move(i, EARLY, early, NONE, NONE);
            move(i, LATE, late, NONE, NONE);
        }

        void move(int i, int side, int to, int rule, int cause) {
            int place = placeOf(i, side);
            edges[place] = to;
            rulesOf[place] = rule;
            causes[place] = cause;
        }

        void take(Windows other) {
            for (int place = 0; place < PLACES; place++) {
                edges[place] = other.edges[place];
                rulesOf[place] = other.rulesOf[place];
                causes[place] = other.causes[place];
            }
        }

        boolean isBroken(Tasks tasks) {
            for (int i = 0; i < tasks.number; i++) {
                if (edge(i, EARLY) + tasks.lasting[i] > edge(i, LATE)) {
                    return true;
                }
            }
            return false;
        }

        int others(Windows before, int number) {
            int sum = 0;
            for (int i = 0; i < number; i++) {
                sum += edge(i, EARLY) != before.edge(i, EARLY) ? 1 : 0;
                sum += edge(i, LATE) != before.edge(i, LATE) ? 1 : 0;
            }
            return sum;
        }
    }

    /** The windows before the latest changes, in a ring: the oldest is lost to the newest. */
    private static final class History {
        private final Windows[] ring = new Windows[MOST_UNDONE];
        private int newest;
        int known;

        History() {
            for (int k = 0; k < MOST_UNDONE; k++) {
                ring[k] = new Windows();
            }
        }

        void add(Windows now) {
            newest = (newest + 1) % MOST_UNDONE;
            ring[newest].take(now);
            known = Math.min(MOST_UNDONE, known + 1);
        }

        Windows latest() {
            return ring[newest];
        }

        void giveBack(Windows now) {
            if (known > 0) {
                now.take(ring[newest]);
                newest = (newest + MOST_UNDONE - 1) % MOST_UNDONE;
                known--;
            }
        }
    }

    /** Tasks and sets of them as a rule sees them: with time as it runs, or as if it ran the other way. */
    private static final class Sight {
        private static final int NO_TIME = 1000;

        private final Tasks tasks;
        final int[] early = new int[MOST_TASKS];
        final int[] late = new int[MOST_TASKS];
        final int[] done = new int[MOST_TASKS];
        final int[] start = new int[MOST_TASKS];
        final int[] setEarly = new int[MOST_SETS];
        final int[] setLate = new int[MOST_SETS];
        final int[] setDone = new int[MOST_SETS];
        final int[] setEnergy = new int[MOST_SETS];

        Sight(Tasks tasks) {
            this.tasks = tasks;
            // The empty set: adding a task to it gives what the task alone has.
            setEarly[0] = NO_TIME;
            setLate[0] = -NO_TIME;
            setDone[0] = NO_TIME;
        }

        void look(Windows now, int side) {
            for (int i = 0; i < tasks.number; i++) {
                early[i] = side == EARLY ? now.edge(i, EARLY) : END - now.edge(i, LATE);
                late[i] = side == EARLY ? now.edge(i, LATE) : END - now.edge(i, EARLY);
                done[i] = early[i] + tasks.lasting[i];
                start[i] = late[i] - tasks.lasting[i];
                for (int rest = 0; rest < 1 << i; rest++) {
                    sumUp(rest, i);
                }
            }
        }

        private void sumUp(int rest, int i) {
            int set = rest | 1 << i;
            setEarly[set] = Math.min(setEarly[rest], early[i]);
            setLate[set] = Math.max(setLate[rest], late[i]);
            setDone[set] = Math.min(setDone[rest], done[i]);
            setEnergy[set] = setEnergy[rest] + tasks.energy(i);
        }

        /** NEEDS of all tasks but one that MUST run at a time. */
        int surely(int time, int but) {
            int sum = 0;
            for (int i = 0; i < tasks.number; i++) {
                if (i != but && start[i] <= time && time < done[i]) {
                    sum += tasks.need[i];
                }
            }
            return sum;
        }

        /** NEED times as much of LONG as lies from a to b when the task begins at EARLY. */
        int mostLeft(int i, int a, int b) {
            int times = Math.min(Math.min(tasks.lasting[i], b - a), done[i] - a);
            return tasks.need[i] * Math.max(0, times);
        }

        private int least(int i, int a, int b) {
            int times = Math.min(Math.min(tasks.lasting[i], b - a), Math.min(done[i] - a, b - start[i]));
            return tasks.need[i] * Math.max(0, times);
        }

        /** THE ROOM from a to b that LEAST of all tasks but one leaves: below 0, if they are too much. */
        int free(int but, int a, int b) {
            int left = tasks.room * (b - a);
            for (int i = 0; i < tasks.number; i++) {
                left -= i == but ? 0 : least(i, a, b);
            }
            return left;
        }

        int heaviest() {
            int span = NONE;
            int lowest = 0;
            for (int a = 0; a < END; a++) {
                for (int b = a + 1; b <= END; b++) {
                    int left = free(NONE, a, b);
                    if (left < lowest) {
                        lowest = left;
                        span = 100 * a + b;
                    }
                }
            }
            return span;
        }

        int wrapOf(int set) {
            int most = 0;
            for (int part = set; part > 0; part = part - 1 & set) {
                most = Math.max(most, tasks.room * setEarly[part] + setEnergy[part]);
            }
            return most;
        }

        int greyest(int set, int other) {
            int which = 0;
            int most = -1;
            for (int i = 0; i < tasks.number; i++) {
                if ((other >> i & 1) == 1 && wrapOf(set | 1 << i) > most) {
                    most = wrapOf(set | 1 << i);
                    which = i;
                }
            }
            return which;
        }
    }

    /** The four rules, each written for EARLY alone: LATE is EARLY seen the other way. */
    private static final class Rules {
        private static final int KINDS = 4;
        /** Far above the 170 steps by which ten edges can move, four rules for each. */
        private static final int MOST_TURNS = 10000;

        private final Tasks tasks;
        private final Sight sight;
        private final int[] told = new int[MOST_TASKS];
        private final int[] cause = new int[MOST_TASKS];

        Rules(Tasks tasks, Sight sight) {
            this.tasks = tasks;
            this.sight = sight;
        }

        void tightenByAll(Windows now) {
            int idle = 0;
            for (int turn = 0; turn < MOST_TURNS; turn++) {
                if (idle == KINDS || now.isBroken(tasks)) {
                    return;
                }
                idle = tighten(turn % KINDS, now) ? 0 : idle + 1;
            }
        }

        boolean tighten(int rule, Windows now) {
            boolean moved = tightenSide(rule, EARLY, now);
            if (now.isBroken(tasks)) {
                return moved;
            }
            boolean movedLate = tightenSide(rule, LATE, now);
            return moved || movedLate;
        }

        private boolean tightenSide(int rule, int side, Windows now) {
            sight.look(now, side);
            boolean moved = false;
            for (int i = 0; i < tasks.number; i++) {
                told[i] = sight.early[i];
                cause[i] = 0;
                switch (rule) {
                    case MUST:
                        byMust(i);
                        break;
                    case EDGE:
                        byEdge(i);
                        break;
                    case FIRST:
                        byFirst(i);
                        break;
                    case SPAN:
                        bySpan(i);
                        break;
                    default:
                        break;
                }
                if (told[i] > sight.early[i]) {
                    int to = Math.min(told[i], sight.start[i] + 1);
                    now.move(i, side, side == EARLY ? to : END - to, rule, cause[i]);
                    moved = true;
                }
            }
            return moved;
        }

        /** Causes come in rising order, so the first that tells the greatest number is the least of them. */
        private void tell(int i, int number, int by) {
            if (number > told[i]) {
                told[i] = number;
                cause[i] = by;
            }
        }

        private void byMust(int i) {
            int open = 0;
            for (int time = sight.early[i]; time < sight.late[i]; time++) {
                boolean shut = sight.surely(time, i) + tasks.need[i] > tasks.room;
                open = shut ? 0 : open + 1;
                if (open == tasks.lasting[i]) {
                    tell(i, time + 1 - open, 0);
                    return;
                }
            }
            tell(i, sight.start[i] + 1, 0);
        }

        private void byEdge(int i) {
            for (int set = 1; set < 1 << tasks.number; set++) {
                if ((set >> i & 1) == 0 && endsBehind(i, set)) {
                    for (int part = set; part > 0; part = part - 1 & set) {
                        tellRest(i, part, set);
                    }
                }
            }
        }

        private boolean endsBehind(int i, int set) {
            int from = Math.min(sight.setEarly[set], sight.early[i]);
            return sight.setEnergy[set | 1 << i] > tasks.room * (sight.setLate[set] - from);
        }

        private void tellRest(int i, int part, int set) {
            int beside = (tasks.room - tasks.need[i]) * (sight.setLate[part] - sight.setEarly[part]);
            int rest = sight.setEnergy[part] - beside;
            int need = tasks.need[i];
            if (rest > 0 && need > 0) {
                tell(i, sight.setEarly[part] + (rest + need - 1) / need, set);
            }
        }

        private void byFirst(int i) {
            for (int set = 1; set < 1 << tasks.number; set++) {
                if ((set >> i & 1) == 0 && canNotBeFirst(i, set)) {
                    tell(i, sight.setDone[set], set);
                }
            }
        }

        private boolean canNotBeFirst(int i, int set) {
            int from = sight.setEarly[set];
            if (from > sight.early[i] || sight.early[i] >= sight.setDone[set]) {
                return false;
            }
            int own = tasks.need[i] * (Math.min(sight.done[i], sight.setLate[set]) - from);
            return sight.setEnergy[set] + own > tasks.room * (sight.setLate[set] - from);
        }

        private void bySpan(int i) {
            int need = tasks.need[i];
            for (int a = 0; a < END; a++) {
                for (int b = a + 1; b <= END; b++) {
                    int free = sight.free(i, a, b);
                    if (free >= 0 && need > 0 && sight.mostLeft(i, a, b) > free) {
                        tell(i, b - free / need, 100 * a + b);
                    }
                }
            }
        }
    }

    /** Looks for schedules within windows of its own, which it may narrow, and by needs that may grow. */
    private static final class Search {
        private final Tasks tasks;
        private final int[] early = new int[MOST_TASKS];
        private final int[] late = new int[MOST_TASKS];
        private final int[] need = new int[MOST_TASKS];
        private final int[] order = new int[MOST_TASKS];
        /** What is needed at each time; all 0 between searches, for each takes away what it filled. */
        private final int[] load = new int[END];
        private int found;

        Search(Tasks tasks) {
            this.tasks = tasks;
        }

        private void open(Windows now) {
            for (int i = 0; i < tasks.number; i++) {
                early[i] = now.edge(i, EARLY);
                late[i] = now.edge(i, LATE);
                need[i] = tasks.need[i];
            }
        }

        private void pin(int i, int beginning) {
            early[i] = beginning;
            late[i] = beginning + tasks.lasting[i];
        }

        int schedules(Windows now) {
            open(now);
            found = 0;
            // Without any the whole tree would be walked for nothing.
            if (isAny()) {
                putInOrder();
                countFrom(0);
            }
            return found;
        }

        /** Tasks with the most energy first: they leave the others the fewest beginnings to try. */
        private void putInOrder() {
            for (int i = 0; i < tasks.number; i++) {
                int ahead = 0;
                for (int k = 0; k < tasks.number; k++) {
                    int more = tasks.energy(k) - tasks.energy(i);
                    ahead += more > 0 || more == 0 && k < i ? 1 : 0;
                }
                order[ahead] = i;
            }
        }

        private void countFrom(int depth) {
            if (depth >= tasks.number) {
                found++;
                return;
            }
            int i = order[depth];
            int open = 0;
            for (int time = Math.max(0, early[i]); time < Math.min(END, late[i]); time++) {
                open = hasRoom(i, time) ? open + 1 : 0;
                if (open >= tasks.lasting[i] && found < MOST_SCHEDULES) {
                    countWith(i, time + 1 - tasks.lasting[i], depth);
                }
            }
        }

        private void countWith(int i, int beginning, int depth) {
            fill(i, beginning, need[i]);
            countFrom(depth + 1);
            fill(i, beginning, -need[i]);
        }

        int belong(Windows now, int i) {
            int bits = 0;
            int last = now.edge(i, LATE) - tasks.lasting[i];
            for (int beginning = now.edge(i, EARLY); beginning <= last; beginning++) {
                open(now);
                pin(i, beginning);
                bits |= isAny() ? 1 << beginning : 0;
            }
            return bits;
        }

        int firstOf(Windows now, int i) {
            open(now);
            if (!isAny()) {
                return NONE;
            }
            for (int before = 0; before <= i; before++) {
                pinFirst(before);
            }
            return early[i];
        }

        private void pinFirst(int i) {
            int last = late[i] - tasks.lasting[i];
            for (int beginning = early[i]; beginning <= last; beginning++) {
                pin(i, beginning);
                if (isAny()) {
                    return;
                }
            }
        }

        int shortest(Windows now) {
            for (int limit = 0; limit <= END; limit++) {
                open(now);
                for (int i = 0; i < tasks.number; i++) {
                    late[i] = Math.min(late[i], limit);
                }
                if (isAny()) {
                    return limit;
                }
            }
            return NONE;
        }

        /** By x of 10: in how many of 10 to the number of tasks equal cases there is a schedule. */
        int luckyOf(Windows now, int x) {
            int cases = 0;
            open(now);
            for (int grown = 0; grown < 1 << tasks.number; grown++) {
                int grows = Integer.bitCount(grown);
                int weight = power(x, grows) * power(TEN - x, tasks.number - grows);
                growNeeds(grown);
                if (weight > 0 && isAny()) {
                    cases += weight;
                }
            }
            return cases;
        }

        private void growNeeds(int grown) {
            for (int i = 0; i < tasks.number; i++) {
                need[i] = Math.min(tasks.room, tasks.need[i] + (grown >> i & 1));
            }
        }

        private boolean isAny() {
            return isAnyBeside(0, 0);
        }

        /**
         * Tasks are put in every order, each as early as it fits: a schedule in which no task can be
         * earlier is made so, by the order of its beginnings, and any schedule can be pushed to one.
         */
        private boolean isAnyBeside(int placed, int depth) {
            if (depth >= tasks.number) {
                return true;
            }
            for (int i = 0; i < tasks.number; i++) {
                if ((placed >> i & 1) == 0) {
                    int beginning = earliestFit(i);
                    if (beginning < 0) {
                        return false;
                    }
                    fill(i, beginning, need[i]);
                    boolean any = isAnyBeside(placed | 1 << i, depth + 1);
                    fill(i, beginning, -need[i]);
                    if (any) {
                        return true;
                    }
                }
            }
            return false;
        }

        private int earliestFit(int i) {
            int open = 0;
            for (int time = Math.max(0, early[i]); time < Math.min(END, late[i]); time++) {
                open = hasRoom(i, time) ? open + 1 : 0;
                if (open >= tasks.lasting[i]) {
                    return time + 1 - open;
                }
            }
            return NONE;
        }

        private boolean hasRoom(int i, int time) {
            return load[time] + need[i] <= tasks.room;
        }

        private void fill(int i, int beginning, int by) {
            for (int time = beginning; time < beginning + tasks.lasting[i] && time < END; time++) {
                load[time] += by;
            }
        }
    }
}
