import java.util.NoSuchElementException;

/** Rooms in which there are too few chairs, by quarters of an hour. ../shared/DOC.md tells what each call promises. */
public final class OneChairShort {
    public static final int NONE = -1;

    private static final int NO_ANSWER = -2;
    private static final int MISSING = -3;
    private static final int NONE_SUCH = -100;

    private static final int MOST_ROOMS = 4;
    private static final int MOST_PEOPLE = 8;
    private static final int MOST_CHAIRS = 8;
    private static final int MOST_TOLD = 8;
    private static final int MOST_PAID = 999;
    private static final int OLDEST = 99;

    private static final int TOWN_SIGNS = 76;
    private static final int PLAN_SIGNS = 24;
    private static final int RULE_SIGNS = 40;
    private static final int DAY_SIGNS = 60;

    private static final int FAR = 200;
    private static final int HALF_FAR = 100;
    private static final int FARTHEST = 500;
    private static final int BITS_TOLD = 30;
    private static final int MOST_ALONE = 5;
    private static final int MOST_TOGETHER = 3;
    private static final int MOST_KEPT = 2;

    private static final int BYTES = 0;
    private static final int SHORTS = 1;
    private static final int MISSING_SHEET = 3;

    private static final int NOWHERE = 0;
    private static final int STANDS = 1;
    private static final int SITS = 2;

    private final Text text = new Text();
    private final Numbers answers = new Numbers();
    private final Town town = new Town();
    private final Town tried = new Town();
    private final State state = new State();
    private final State future = new State();
    private final Clock clock = new Clock();
    private final Memory memory = new Memory();
    private final Books books = new Books();
    private final Search search = new Search(tried, clock);
    private final RuleReader draft = new RuleReader(text);
    private final DayReader acts = new DayReader(text);
    private final int[] toldOf = new int[MOST_TOLD];
    private final int[] toldStood = new int[MOST_TOLD];
    private int toldSoFar;
    private final int[] stoodAsItIs = new int[MOST_PEOPLE];
    private final int[] history = new int[(FARTHEST + 1) * MOST_PEOPLE];

    public OneChairShort() {
    }

    // ---- the town

    public int sign(int v) {
        return text.append(v) ? text.length : NONE;
    }

    public boolean end(int n) {
        return text.cutTo(n);
    }

    public int town() {
        int lines = town.readLines(text);
        if (lines == NONE) {
            lines = text.fault();
        } else if (lines > 0) {
            memory.forgetPast();
        }
        text.clear();
        return lines;
    }

    public int plan(int person) {
        int answer = NONE_SUCH;
        if (town.hasPerson(person)) {
            answer = town.readPlan(text, person) ? text.length : text.fault();
        }
        text.clear();
        return answer;
    }

    public int rule(int i) {
        int answer = NONE_SUCH;
        if (i == 0) {
            answer = readRule(town.asking, 't');
        } else if (i == 1) {
            answer = readRule(town.giving, 's');
        }
        text.clear();
        return answer;
    }

    private int readRule(Rule rule, int usual) {
        if (text.length == 0) {
            rule.become(usual);
            return 0;
        }
        if (!draft.read()) {
            return text.fault();
        }
        rule.takeFrom(draft.rule);
        return 0;
    }

    public int of(int person, int what) throws NoSuchElementException {
        if (!town.hasPerson(person)) {
            throw new NoSuchElementException();
        }
        switch (what) {
            case 0: return town.age[person];
            case 1: return town.sick[person];
            case 2: return state.cells[State.PLACE + person];
            case 3: return state.pose(person) == SITS ? 1 : 0;
            case 4: return state.cells[State.SAT + person];
            case 5: return state.cells[State.STOOD + person];
            case 6: return state.cells[State.SAT_IN_ALL + person];
            case 7: return state.cells[State.STOOD_IN_ALL + person];
            case 8: return state.cells[State.CREDIT + person];
            case 9: return town.asking.valueFor(town, state, person);
            case 10: return town.giving.valueFor(town, state, person);
            default: throw new NoSuchElementException();
        }
    }

    public int chairs(int room, int v) {
        if (!town.hasRoom(room) || !isWithin(v, 0, MOST_CHAIRS)) {
            return NONE;
        }
        int were = town.chairs[room];
        town.chairs[room] = v;
        return were;
    }

    public boolean sick(int person, boolean is) {
        if (!town.hasPerson(person)) {
            return false;
        }
        town.sick[person] = is ? 1 : 0;
        return true;
    }

    public int sheet(int kind, int n, int f, int step) {
        if (!isWithin(kind, BYTES, MISSING_SHEET) || n > MOST_PEOPLE) {
            return NONE;
        }
        if (kind != MISSING_SHEET && n < 0) {
            return NO_ANSWER;
        }
        int entries = kind == MISSING_SHEET ? 0 : n;
        int sum = 0;
        for (int person = 0; person < town.people; person++) {
            town.age[person] = person < entries ? ageTold(kind, f + person * step) : 0;
            sum += town.age[person];
        }
        return kind == MISSING_SHEET ? MISSING : sum;
    }

    private static int ageTold(int kind, int entry) {
        int age = entry;
        if (kind == BYTES) {
            age = (byte) entry;
        } else if (kind == SHORTS) {
            age = (short) entry;
        }
        return Math.max(0, Math.min(OLDEST, age));
    }

    // ---- quarters

    public int quarters(int n) {
        if (!isWithin(n, 0, FAR)) {
            return NONE;
        }
        int before = state.stoodByAll();
        int asked = passQuarters(n);
        answers.clear();
        answers.add(Integer.bitCount(state.posed(STANDS)));
        answers.add(state.stoodByAll() - before);
        return asked;
    }

    private int passQuarters(int n) {
        if (n > 0) {
            memory.push(state);
        }
        int asked = 0;
        for (int k = 0; k < n; k++) {
            asked += clock.pass(town, state);
        }
        return asked;
    }

    public int undo() {
        return memory.pop(state) ? memory.undoable : NONE;
    }

    public int in(int room) {
        if (!town.hasRoom(room)) {
            return NONE;
        }
        int sitting = state.posedIn(room, SITS);
        answers.clear();
        answers.add(sitting);
        return sitting | state.posedIn(room, STANDS);
    }

    public int asks(int room) {
        if (!town.hasRoom(room)) {
            return NONE;
        }
        tryOut(town, 1);
        if (clock.asker[room] == NONE) {
            return NO_ANSWER;
        }
        answers.clear();
        answers.add(clock.giver[room]);
        return clock.asker[room];
    }

    public int queue(int room) {
        if (!town.hasRoom(room)) {
            return NONE;
        }
        answers.clear();
        lineUp(town.asking, state.posedIn(room, STANDS));
        lineUp(town.giving, state.posedIn(room, SITS));
        return answers.many;
    }

    private void lineUp(Rule rule, int those) {
        clock.weigh(rule, town, state, those);
        int left = those;
        for (int k = 0; k < MOST_PEOPLE && left != 0; k++) {
            int person = clock.heaviest(left);
            answers.add(person);
            left &= ~(1 << person);
        }
    }

    public int day() {
        if (!acts.read()) {
            text.clear();
            return text.fault();
        }
        text.clear();
        int passed = 0;
        int asked = 0;
        int done = 0;
        for (int k = 0; k < acts.many; k++) {
            if (acts.kind[k] == 'q') {
                passed += acts.n[k];
                asked += passQuarters(acts.n[k]);
            } else if (!act(acts.kind[k], acts.x[k], acts.y[k], acts.n[k])) {
                break;
            }
            done++;
        }
        answers.clear();
        answers.add(passed);
        answers.add(asked);
        answers.add(done < acts.many ? 1 : 0);
        return done;
    }

    private boolean act(int kind, int x, int y, int n) {
        switch (kind) {
            case 'c': return chairs(x, n) != NONE;
            case 's': return sick(x, true);
            case 'w': return sick(x, false);
            default: return lend(x, y, n);
        }
    }

    public int will(int person, int n) throws NoSuchElementException {
        if (!town.hasPerson(person) || !isWithin(n, 0, BITS_TOLD)) {
            throw new NoSuchElementException();
        }
        int bits = 0;
        future.takeFrom(state);
        for (int k = 0; k < n; k++) {
            clock.pass(town, future);
            if (future.pose(person) == STANDS) {
                bits |= 1 << k;
            }
        }
        return bits;
    }

    public int longest(int person, int n) {
        if (!town.hasPerson(person) || !isWithin(n, 0, FAR)) {
            return NONE;
        }
        int most = state.cells[State.STOOD + person];
        int when = 0;
        future.takeFrom(state);
        for (int k = 1; k <= n; k++) {
            clock.pass(town, future);
            if (future.cells[State.STOOD + person] > most) {
                most = future.cells[State.STOOD + person];
                when = k;
            }
        }
        answers.clear();
        answers.add(when);
        return most;
    }

    // ---- books

    public int gave(int one, int other) {
        return areTwo(one, other) ? state.given(one, other) : NONE;
    }

    public int pair() {
        int most = 0;
        answers.clear();
        for (int one = 0; one < town.people; one++) {
            for (int other = one + 1; other < town.people; other++) {
                int both = state.given(one, other) + state.given(other, one);
                if (both > most) {
                    most = both;
                    answers.clear();
                    answers.add(one);
                    answers.add(other);
                }
            }
        }
        return most;
    }

    public boolean lend(int from, int to, int n) {
        if (!areTwo(from, to) || !isWithin(n, 1, MOST_PAID)) {
            return false;
        }
        state.pay(from, to, n);
        memory.forgetPast();
        return true;
    }

    public int fewest() {
        return books.groupUp(state, answers);
    }

    public int settle() {
        memory.forgetPast();
        return books.payAll(state, answers);
    }

    // ---- where to go (nothing changes)

    public int least(int person, int n) {
        if (!town.hasPerson(person) || !isWithin(n, 0, MOST_ALONE)) {
            return NONE;
        }
        if (town.rooms == 0) {
            return NO_ANSWER;
        }
        tried.takeFrom(town);
        search.begin(state, person, NONE, n);
        search.tryAll();
        search.tellMoves(answers);
        return n - search.best;
    }

    public int together(int one, int other, int n) {
        if (!areTwo(one, other) || !isWithin(n, 0, MOST_TOGETHER)) {
            return NONE;
        }
        if (town.rooms == 0) {
            return NO_ANSWER;
        }
        tried.takeFrom(town);
        search.begin(state, one, other, n);
        search.tryAll();
        search.tellMoves(answers);
        return search.best;
    }

    public int both(int one, int other) {
        if (!areTwo(one, other)) {
            return NONE;
        }
        future.takeFrom(state);
        for (int k = 1; k <= FAR; k++) {
            clock.pass(town, future);
            if (future.sitTogether(one, other)) {
                return k;
            }
        }
        return NO_ANSWER;
    }

    public int often(int one, int other, int n) {
        if (!areTwo(one, other) || !isWithin(n, 0, FAR)) {
            return NONE;
        }
        int times = 0;
        future.takeFrom(state);
        for (int k = 0; k < n; k++) {
            clock.pass(town, future);
            if (future.sitTogether(one, other)) {
                times++;
            }
        }
        return times;
    }

    public boolean swap(int one, int other) {
        if (!areTwo(one, other)) {
            return false;
        }
        town.exchangePlans(one, other);
        return true;
    }

    public int exchange(int n) {
        if (!isWithin(n, 0, HALF_FAR)) {
            return NONE;
        }
        if (town.people < 2) {
            return NO_ANSWER;
        }
        tryOut(town, n);
        int asItIs = stoodByAll();
        int fewest = NONE;
        for (int one = 0; one < town.people; one++) {
            for (int other = one + 1; other < town.people; other++) {
                tried.takeFrom(town);
                tried.exchangePlans(one, other);
                tryOut(tried, n);
                int stood = stoodByAll();
                if (fewest == NONE || stood < fewest) {
                    fewest = stood;
                    answers.clear();
                    answers.add(one);
                    answers.add(other);
                }
            }
        }
        answers.add(asItIs - fewest);
        return fewest;
    }

    public int delay(int person, int n) {
        if (!town.hasPerson(person) || !isWithin(n, 0, HALF_FAR)) {
            return NONE;
        }
        if (town.planSigns[person] == 0) {
            return NO_ANSWER;
        }
        int fewest = NONE;
        int by = 0;
        tried.takeFrom(town);
        for (int k = 0; k < town.planSigns[person]; k++) {
            tried.signsFurther[person] = k;
            tryOut(tried, n);
            if (fewest == NONE || stoodBy(person) < fewest) {
                fewest = stoodBy(person);
                by = k;
            }
        }
        answers.clear();
        answers.add(by);
        return fewest;
    }

    public int crowd(int n) {
        if (!isWithin(n, 1, HALF_FAR)) {
            return NONE;
        }
        if (town.rooms == 0) {
            return NO_ANSWER;
        }
        int most = NONE;
        int now = state.cells[State.NOW];
        for (int k = 1; k <= n; k++) {
            for (int room = 0; room < town.rooms; room++) {
                int there = town.manyIn(room, now + k - 1);
                if (there > most) {
                    most = there;
                    answers.clear();
                    answers.add(k);
                    answers.add(room);
                }
            }
        }
        return most;
    }

    public int calm(int n) {
        if (!isWithin(n, 0, FAR)) {
            return NONE;
        }
        int times = 0;
        int first = NONE;
        future.takeFrom(state);
        for (int k = 1; k <= n; k++) {
            clock.pass(town, future);
            if (future.posed(STANDS) == 0) {
                times++;
                first = first == NONE ? k : first;
            }
        }
        answers.clear();
        answers.add(first);
        return times;
    }

    // ---- chairs (nothing changes)

    public int more(int n) {
        if (!isWithin(n, 0, HALF_FAR)) {
            return NONE;
        }
        if (town.rooms == 0) {
            return NO_ANSWER;
        }
        tryOut(town, n);
        int asItIs = stoodByAll();
        for (int person = 0; person < town.people; person++) {
            stoodAsItIs[person] = stoodBy(person);
        }
        int fewest = NONE;
        int where = NONE;
        int freed = NONE;
        for (int room = 0; room < town.rooms; room++) {
            tried.takeFrom(town);
            tried.chairs[room] = Math.min(MOST_CHAIRS, town.chairs[room] + 1);
            tryOut(tried, n);
            int stood = stoodByAll();
            if (where == NONE || stood < fewest) {
                fewest = stood;
                where = room;
                freed = mostFreed();
            }
        }
        answers.clear();
        answers.add(asItIs - fewest);
        answers.add(freed);
        return where;
    }

    private int mostFreed() {
        int most = 0;
        int who = NONE;
        for (int person = 0; person < town.people; person++) {
            int less = stoodAsItIs[person] - stoodBy(person);
            if (less > most) {
                most = less;
                who = person;
            }
        }
        return who;
    }

    public int feast(int n) {
        if (!isWithin(n, 0, HALF_FAR)) {
            return NONE;
        }
        if (town.rooms < 2) {
            return NO_ANSWER;
        }
        int fewest = NONE;
        for (int one = 0; one < town.rooms; one++) {
            for (int other = one + 1; other < town.rooms; other++) {
                tried.takeFrom(town);
                tried.putTogether(one, other);
                tryOut(tried, n);
                int stood = stoodByAll();
                if (fewest == NONE || stood < fewest) {
                    fewest = stood;
                    answers.clear();
                    answers.add(one);
                    answers.add(other);
                }
            }
        }
        return fewest;
    }

    public int told(int person, int stood) {
        if (!town.hasPerson(person) || !isWithin(stood, 0, HALF_FAR) || toldSoFar >= MOST_TOLD) {
            return NONE;
        }
        toldOf[toldSoFar] = person;
        toldStood[toldSoFar] = stood;
        toldSoFar++;
        return toldSoFar;
    }

    public int forget() {
        int there = toldSoFar;
        toldSoFar = 0;
        return there;
    }

    public int stolen(int n) {
        if (!isWithin(n, 0, HALF_FAR)) {
            return NONE;
        }
        tryOut(town, n);
        answers.clear();
        answers.add(fitsWhatWasTold() ? 1 : 0);
        int bits = 0;
        for (int room = 0; room < town.rooms; room++) {
            if (town.chairs[room] > 0) {
                tried.takeFrom(town);
                tried.chairs[room]--;
                tryOut(tried, n);
                bits |= fitsWhatWasTold() ? 1 << room : 0;
            }
        }
        return bits;
    }

    private boolean fitsWhatWasTold() {
        for (int k = 0; k < toldSoFar; k++) {
            if (stoodBy(toldOf[k]) != toldStood[k]) {
                return false;
            }
        }
        return true;
    }

    // ---- rules (nothing changes)

    public int even(int n) {
        if (!isWithin(n, 0, FAR)) {
            return NONE;
        }
        if (town.people == 0) {
            return NO_ANSWER;
        }
        answers.clear();
        for (int way = 0; way < 4; way++) {
            tried.takeFrom(town);
            askBy(way);
            tryOut(tried, n);
            answers.add(future.unevenness(town.people));
        }
        return answers.firstLeast();
    }

    private void askBy(int way) {
        switch (way) {
            case 1: tried.asking.become('g'); break;
            case 2: tried.asking.become('b'); break;
            case 3: tried.asking.become('c'); break;
            default: break;
        }
    }

    public int spares(int person, int n) throws NoSuchElementException {
        if (!town.hasPerson(person) || !isWithin(n, 0, HALF_FAR)) {
            throw new NoSuchElementException();
        }
        tryOut(town, n);
        int asItIs = stoodBy(person);
        tried.takeFrom(town);
        tried.sick[person] = 1 - town.sick[person];
        tryOut(tried, n);
        return asItIs - stoodBy(person);
    }

    public int round() {
        int period = town.quartersTillSameSigns();
        if (period <= 0) {
            return NO_ANSWER;
        }
        future.takeFrom(state);
        remember(0);
        for (int k = 1; k <= FARTHEST; k++) {
            clock.pass(town, future);
            remember(k);
            for (int earlier = k - period; earlier >= 0; earlier -= period) {
                if (wereAlike(k, earlier)) {
                    answers.clear();
                    answers.add(earlier);
                    return k;
                }
            }
        }
        return NO_ANSWER;
    }

    /** One number tells s and t: who sits has no t, who stands no s. */
    private void remember(int k) {
        for (int person = 0; person < town.people; person++) {
            int row = future.cells[State.SAT + person] + future.cells[State.STOOD + person];
            int where = (future.cells[State.PLACE + person] + 1) * 4 + future.pose(person);
            history[k * MOST_PEOPLE + person] = row * 32 + where;
        }
    }

    private boolean wereAlike(int k, int earlier) {
        for (int person = 0; person < town.people; person++) {
            if (history[k * MOST_PEOPLE + person] != history[earlier * MOST_PEOPLE + person]) {
                return false;
            }
        }
        return true;
    }

    // ---- kept

    public boolean keep(int i) {
        if (!isWithin(i, 0, MOST_KEPT - 1)) {
            return false;
        }
        memory.put(i, town, state);
        return true;
    }

    public boolean again(int i) {
        if (!isWithin(i, 0, MOST_KEPT - 1) || !memory.bringBack(i, town, state)) {
            return false;
        }
        memory.forgetPast();
        return true;
    }

    public int count(int what) {
        switch (what) {
            case 0: return town.people;
            case 1: return town.rooms;
            case 2: return state.cells[State.NOW];
            case 3: return state.posed(SITS);
            case 4: return state.posed(STANDS);
            case 5: return memory.undoable;
            case 6: return toldSoFar;
            case 7: return answers.many;
            case 8: return text.length;
            case 9: return town.allChairs();
            default: return NONE;
        }
    }

    public int row(int i) throws NoSuchElementException {
        if (!answers.has(i)) {
            throw new NoSuchElementException();
        }
        return answers.numbers[i];
    }

    // ---- what several calls need

    private static boolean isWithin(int v, int from, int to) {
        return v >= from && v <= to;
    }

    private boolean areTwo(int one, int other) {
        return town.hasPerson(one) && town.hasPerson(other) && one != other;
    }

    /** Leaves in future what comes of n quarters from now on. */
    private void tryOut(Town where, int n) {
        future.takeFrom(state);
        for (int k = 0; k < n; k++) {
            clock.pass(where, future);
        }
    }

    private int stoodBy(int person) {
        return future.cells[State.STOOD_IN_ALL + person] - state.cells[State.STOOD_IN_ALL + person];
    }

    private int stoodByAll() {
        return future.stoodByAll() - state.stoodByAll();
    }

    /** THE TEXT, and how far it has been read. */
    private static final class Text {
        static final int MOST_SIGNS = 80;

        final int[] signs = new int[MOST_SIGNS];
        int length;
        private int at;
        private int readable;

        boolean append(int v) {
            if (length + 4 > MOST_SIGNS) {
                return false;
            }
            for (int k = 0; k < 4; k++) {
                signs[length + k] = v >>> (24 - 8 * k) & 255;
            }
            length += 4;
            return true;
        }

        boolean cutTo(int n) {
            if (n < 0 || n > length) {
                return false;
            }
            length = n;
            return true;
        }

        void clear() {
            length = 0;
        }

        /** What stands behind the limit is never read, so that it is the fault if nothing ahead of it is. */
        void startReading(int limit) {
            at = 0;
            readable = Math.min(length, limit);
        }

        int next() {
            return at < readable ? signs[at] : NONE;
        }

        boolean take(int sign) {
            if (next() != sign) {
                return false;
            }
            at++;
            return true;
        }

        int digit(int greatest) {
            int sign = next();
            if (sign < '0' || sign > '9' || sign - '0' > greatest) {
                return NONE;
            }
            at++;
            return sign - '0';
        }

        int number(int mostDigits) {
            int number = digit(9);
            for (int k = 1; k < mostDigits && number != NONE; k++) {
                int more = digit(9);
                if (more == NONE) {
                    break;
                }
                number = number * 10 + more;
            }
            return number;
        }

        boolean isRead() {
            return at == length;
        }

        int fault() {
            return -1 - at;
        }
    }

    /** THE ROW: what a call tells beside its answer. */
    private static final class Numbers {
        final int[] numbers = new int[MOST_PEOPLE];
        int many;

        void clear() {
            many = 0;
        }

        void add(int number) {
            if (many < numbers.length) {
                numbers[many] = number;
                many++;
            }
        }

        boolean has(int i) {
            return i >= 0 && i < many;
        }

        int firstLeast() {
            int best = 0;
            for (int k = 1; k < many; k++) {
                if (numbers[k] < numbers[best]) {
                    best = k;
                }
            }
            return best;
        }
    }

    /** What does not change by itself: rooms, people, their plans and the rules. */
    private static final class Town {
        int rooms;
        int people;
        final int[] chairs = new int[MOST_ROOMS];
        final int[] age = new int[MOST_PEOPLE];
        final int[] sick = new int[MOST_PEOPLE];
        final int[][] plans = new int[MOST_PEOPLE][PLAN_SIGNS];
        final int[] planSigns = new int[MOST_PEOPLE];
        final int[] signsFurther = new int[MOST_PEOPLE];
        final Rule asking = new Rule('t');
        final Rule giving = new Rule('s');
        private int roomsTold;
        private int peopleTold;

        boolean hasRoom(int room) {
            return room >= 0 && room < rooms;
        }

        boolean hasPerson(int person) {
            return person >= 0 && person < people;
        }

        /** Answers how many lines, or NONE, if one is wrong; what they tell only counts once all of it is right. */
        int readLines(Text text) {
            roomsTold = rooms;
            peopleTold = people;
            text.startReading(TOWN_SIGNS);
            if (text.length == 0) {
                return 0;
            }
            int lines = 0;
            do {
                boolean right = text.next() == 'r' ? readRoom(text) : readPerson(text);
                if (!right) {
                    return NONE;
                }
                lines++;
            } while (lines < TOWN_SIGNS && text.take(';'));
            if (!text.isRead()) {
                return NONE;
            }
            rooms = roomsTold;
            people = peopleTold;
            return lines;
        }

        private boolean readRoom(Text text) {
            if (roomsTold >= MOST_ROOMS || !text.take('r')) {
                return false;
            }
            int told = text.digit(MOST_CHAIRS);
            if (told == NONE) {
                return false;
            }
            chairs[roomsTold] = told;
            roomsTold++;
            return true;
        }

        private boolean readPerson(Text text) {
            if (peopleTold >= MOST_PEOPLE) {
                return false;
            }
            int told = text.number(2);
            if (told == NONE) {
                return false;
            }
            age[peopleTold] = told;
            sick[peopleTold] = text.take('!') ? 1 : 0;
            peopleTold++;
            return true;
        }

        boolean readPlan(Text text, int person) {
            boolean right = true;
            text.startReading(PLAN_SIGNS);
            for (int k = 0; k < PLAN_SIGNS && right && text.next() != NONE; k++) {
                right = text.take('-') || text.digit(rooms - 1) != NONE;
            }
            if (!right || !text.isRead()) {
                return false;
            }
            planSigns[person] = Math.min(PLAN_SIGNS, text.length);
            for (int k = 0; k < planSigns[person]; k++) {
                plans[person][k] = text.signs[k] == '-' ? NONE : text.signs[k] - '0';
            }
            return true;
        }

        void takeFrom(Town other) {
            rooms = other.rooms;
            people = other.people;
            System.arraycopy(other.chairs, 0, chairs, 0, MOST_ROOMS);
            System.arraycopy(other.age, 0, age, 0, MOST_PEOPLE);
            System.arraycopy(other.sick, 0, sick, 0, MOST_PEOPLE);
            System.arraycopy(other.planSigns, 0, planSigns, 0, MOST_PEOPLE);
            System.arraycopy(other.signsFurther, 0, signsFurther, 0, MOST_PEOPLE);
            for (int person = 0; person < people; person++) {
                System.arraycopy(other.plans[person], 0, plans[person], 0, PLAN_SIGNS);
            }
            asking.takeFrom(other.asking);
            giving.takeFrom(other.giving);
        }

        int placeOf(int person, int quarter) {
            int signs = planSigns[person];
            if (signs <= 0 || signs > PLAN_SIGNS) {
                return NONE;
            }
            return plans[person][Math.floorMod(quarter + signsFurther[person], signs)];
        }

        int manyIn(int room, int quarter) {
            int many = 0;
            for (int person = 0; person < people; person++) {
                if (placeOf(person, quarter) == room) {
                    many++;
                }
            }
            return many;
        }

        void sendAlways(int person, int room) {
            plans[person][0] = room;
            planSigns[person] = 1;
        }

        void exchangePlans(int one, int other) {
            int signs = planSigns[one];
            planSigns[one] = planSigns[other];
            planSigns[other] = signs;
            for (int k = 0; k < PLAN_SIGNS; k++) {
                int place = plans[one][k];
                plans[one][k] = plans[other][k];
                plans[other][k] = place;
            }
        }

        void putTogether(int room, int second) {
            chairs[room] += chairs[second];
            for (int person = 0; person < people; person++) {
                for (int k = 0; k < planSigns[person]; k++) {
                    if (plans[person][k] == second) {
                        plans[person][k] = room;
                    }
                }
            }
        }

        int allChairs() {
            int all = 0;
            for (int room = 0; room < rooms; room++) {
                all += chairs[room];
            }
            return all;
        }

        /** NONE, if it is longer than any call looks ahead. */
        int quartersTillSameSigns() {
            for (int period = 1; period <= FARTHEST; period++) {
                if (allPlansDivide(period)) {
                    return period;
                }
            }
            return NONE;
        }

        private boolean allPlansDivide(int period) {
            for (int person = 0; person < people; person++) {
                if (planSigns[person] > 0 && period % planSigns[person] != 0) {
                    return false;
                }
            }
            return true;
        }
    }

    /** What quarters change, in one row of cells, so that it is kept and brought back as one. */
    private static final class State {
        static final int PLACE = 0;
        static final int POSE = PLACE + MOST_PEOPLE;
        static final int SAT = POSE + MOST_PEOPLE;
        static final int STOOD = SAT + MOST_PEOPLE;
        static final int SAT_IN_ALL = STOOD + MOST_PEOPLE;
        static final int STOOD_IN_ALL = SAT_IN_ALL + MOST_PEOPLE;
        static final int CREDIT = STOOD_IN_ALL + MOST_PEOPLE;
        static final int GAVE = CREDIT + MOST_PEOPLE;
        static final int NOW = GAVE + MOST_PEOPLE * MOST_PEOPLE;
        static final int CELLS = NOW + 1;

        final int[] cells = new int[CELLS];

        State() {
            for (int person = 0; person < MOST_PEOPLE; person++) {
                cells[PLACE + person] = NONE;
            }
        }

        void takeFrom(State other) {
            System.arraycopy(other.cells, 0, cells, 0, CELLS);
        }

        int pose(int person) {
            return cells[POSE + person];
        }

        int posed(int pose) {
            int bits = 0;
            for (int person = 0; person < MOST_PEOPLE; person++) {
                if (cells[POSE + person] == pose) {
                    bits |= 1 << person;
                }
            }
            return bits;
        }

        int posedIn(int room, int pose) {
            int bits = 0;
            for (int person = 0; person < MOST_PEOPLE; person++) {
                if (cells[PLACE + person] == room && cells[POSE + person] == pose) {
                    bits |= 1 << person;
                }
            }
            return bits;
        }

        int stoodByAll() {
            int all = 0;
            for (int person = 0; person < MOST_PEOPLE; person++) {
                all += cells[STOOD_IN_ALL + person];
            }
            return all;
        }

        int unevenness(int people) {
            int most = cells[STOOD_IN_ALL];
            int fewest = most;
            for (int person = 1; person < people; person++) {
                most = Math.max(most, cells[STOOD_IN_ALL + person]);
                fewest = Math.min(fewest, cells[STOOD_IN_ALL + person]);
            }
            return most - fewest;
        }

        boolean sitTogether(int one, int other) {
            return pose(one) == SITS && pose(other) == SITS && cells[PLACE + one] == cells[PLACE + other];
        }

        int given(int giver, int asker) {
            return cells[GAVE + giver * MOST_PEOPLE + asker];
        }

        void pay(int from, int to, int n) {
            cells[CREDIT + from] += n;
            cells[CREDIT + to] -= n;
        }

        void give(int giver, int asker) {
            cells[POSE + giver] = STANDS;
            cells[POSE + asker] = SITS;
            cells[GAVE + giver * MOST_PEOPLE + asker]++;
            pay(giver, asker, 1);
        }
    }

    /** Lets quarters go by, and knows who asked whom in the latest. */
    private static final class Clock {
        final int[] asker = new int[MOST_ROOMS];
        final int[] giver = new int[MOST_ROOMS];
        private final int[] weight = new int[MOST_PEOPLE];

        /** Answers how often somebody asked. */
        int pass(Town town, State state) {
            int asked = 0;
            goWherePlanned(town, state);
            for (int room = 0; room < town.rooms; room++) {
                int sitting = state.posedIn(room, SITS);
                int standing = state.posedIn(room, STANDS);
                int free = town.chairs[room] - Integer.bitCount(sitting);
                if (free < 0) {
                    standUp(town, state, sitting, -free);
                } else if (free > 0 && standing != 0) {
                    sitDown(town, state, standing, free);
                }
                if (ask(town, state, room)) {
                    asked++;
                }
            }
            countQuarter(town, state);
            return asked;
        }

        private void goWherePlanned(Town town, State state) {
            int[] cells = state.cells;
            for (int person = 0; person < town.people; person++) {
                int place = town.placeOf(person, cells[State.NOW]);
                if (place == NONE) {
                    cells[State.POSE + person] = NOWHERE;
                } else if (place != cells[State.PLACE + person]) {
                    cells[State.POSE + person] = STANDS;
                }
                cells[State.PLACE + person] = place;
            }
        }

        private void standUp(Town town, State state, int sitting, int many) {
            weigh(town.giving, town, state, sitting);
            change(state, sitting, many, STANDS);
        }

        private void sitDown(Town town, State state, int standing, int many) {
            // Where all find a chair, their order tells nothing.
            if (Integer.bitCount(standing) > many) {
                weigh(town.asking, town, state, standing);
            }
            change(state, standing, many, SITS);
        }

        private void change(State state, int those, int many, int pose) {
            int left = those;
            for (int k = 0; k < many && left != 0; k++) {
                int person = heaviest(left);
                state.cells[State.POSE + person] = pose;
                left &= ~(1 << person);
            }
        }

        private boolean ask(Town town, State state, int room) {
            asker[room] = NONE;
            giver[room] = NONE;
            int asking = 0;
            int giving = 0;
            for (int person = 0; person < town.people; person++) {
                if (state.cells[State.PLACE + person] != room) {
                    continue;
                }
                if (state.pose(person) == STANDS && state.cells[State.STOOD + person] >= 1) {
                    asking |= 1 << person;
                }
                if (state.pose(person) == SITS && state.cells[State.SAT + person] >= 1 && town.sick[person] == 0) {
                    giving |= 1 << person;
                }
            }
            if (asking == 0 || giving == 0) {
                return false;
            }
            weigh(town.asking, town, state, asking);
            asker[room] = heaviest(asking);
            weigh(town.giving, town, state, giving);
            giver[room] = heaviest(giving);
            state.give(giver[room], asker[room]);
            return true;
        }

        private void countQuarter(Town town, State state) {
            int[] cells = state.cells;
            for (int person = 0; person < town.people; person++) {
                boolean sits = cells[State.POSE + person] == SITS;
                boolean stands = cells[State.POSE + person] == STANDS;
                cells[State.SAT + person] = sits ? cells[State.SAT + person] + 1 : 0;
                cells[State.STOOD + person] = stands ? cells[State.STOOD + person] + 1 : 0;
                cells[State.SAT_IN_ALL + person] += sits ? 1 : 0;
                cells[State.STOOD_IN_ALL + person] += stands ? 1 : 0;
            }
            cells[State.NOW]++;
        }

        void weigh(Rule rule, Town town, State state, int those) {
            for (int person = 0; person < MOST_PEOPLE; person++) {
                if ((those >> person & 1) == 1) {
                    weight[person] = rule.valueFor(town, state, person);
                }
            }
        }

        /** Of those who have been weighed. */
        int heaviest(int those) {
            int best = NONE;
            for (int person = 0; person < MOST_PEOPLE; person++) {
                if ((those >> person & 1) == 1 && (best == NONE || weight[person] > weight[best])) {
                    best = person;
                }
            }
            return best;
        }
    }

    /** An expression, its steps in the order in which they are done: things first, what joins them behind. */
    private static final class Rule {
        static final int THING = 1000;
        static final int JOIN = 2000;
        static final int NEGATE = 3000;

        private final int[] steps = new int[RULE_SIGNS];
        private final int[] values = new int[RULE_SIGNS];
        private int many;

        Rule(int thing) {
            steps[0] = THING + thing;
            many = 1;
        }

        void clear() {
            many = 0;
        }

        void become(int thing) {
            many = 0;
            add(THING + thing);
        }

        void add(int step) {
            if (many < steps.length) {
                steps[many] = step;
                many++;
            }
        }

        void takeFrom(Rule other) {
            System.arraycopy(other.steps, 0, steps, 0, RULE_SIGNS);
            many = other.many;
        }

        int valueFor(Town town, State state, int person) {
            int top = NONE;
            for (int k = 0; k < many; k++) {
                int step = steps[k];
                if (step < JOIN) {
                    top++;
                    if (top >= values.length) {
                        return 0;
                    }
                    values[top] = step < THING ? step : thing(step - THING, town, state, person);
                } else if (step == NEGATE && top >= 0) {
                    values[top] = -values[top];
                } else if (top >= 1) {
                    top--;
                    values[top] = joined(step - JOIN, values[top], values[top + 1]);
                }
            }
            return values[0];
        }

        private static int thing(int letter, Town town, State state, int person) {
            switch (letter) {
                case 'i': return person;
                case 'g': return town.age[person];
                case 'k': return town.sick[person];
                case 's': return state.cells[State.SAT + person];
                case 't': return state.cells[State.STOOD + person];
                case 'a': return state.cells[State.SAT_IN_ALL + person];
                case 'b': return state.cells[State.STOOD_IN_ALL + person];
                default: return state.cells[State.CREDIT + person];
            }
        }

        private static int joined(int sign, int left, int right) {
            switch (sign) {
                case '+': return left + right;
                case '-': return left - right;
                case '*': return left * right;
                case '/': return right == 0 ? 0 : left / right;
                case '<': return left < right ? 1 : 0;
                case '>': return left > right ? 1 : 0;
                default: return left == right ? 1 : 0;
            }
        }
    }

    /** Reads THE TEXT as a rule; where it answers false, the text stands at the wrong sign. */
    private static final class RuleReader {
        private static final int MOST_IN_ONE_ANOTHER = 4;
        private static final int OPENED = 0;
        private static final int COMPARES = 1;

        final Rule rule = new Rule('t');
        private final Text text;
        /** Steps that can't be done yet, as what they join is not read yet. */
        private final int[] waiting = new int[RULE_SIGNS];
        private int waits;
        private int depth;
        private int comparedAtDepths;

        RuleReader(Text text) {
            this.text = text;
        }

        boolean read() {
            rule.clear();
            waits = 0;
            depth = 0;
            comparedAtDepths = 0;
            text.startReading(RULE_SIGNS);
            for (int k = 0; k < RULE_SIGNS; k++) {
                readAheadOfThing();
                if (!readThing()) {
                    return false;
                }
                readClosings();
                if (!readJoin()) {
                    break;
                }
            }
            addWaiting(COMPARES);
            return depth == 0 && text.isRead();
        }

        private void readAheadOfThing() {
            for (int k = 0; k < RULE_SIGNS; k++) {
                if (text.take('-')) {
                    push(Rule.NEGATE);
                } else if (depth < MOST_IN_ONE_ANOTHER && text.take('(')) {
                    push(OPENED);
                    depth++;
                    comparedAtDepths &= ~(1 << depth);
                } else {
                    break;
                }
            }
        }

        private boolean readThing() {
            int sign = text.next();
            switch (sign) {
                case 'i': case 'g': case 'k': case 's': case 't': case 'a': case 'b': case 'c':
                    rule.add(Rule.THING + sign);
                    return text.take(sign);
                default:
                    int number = text.number(3);
                    if (number == NONE) {
                        return false;
                    }
                    rule.add(number);
                    return true;
            }
        }

        private void readClosings() {
            for (int k = 0; k < RULE_SIGNS && depth > 0 && text.take(')'); k++) {
                addWaiting(COMPARES);
                waits = Math.max(0, waits - 1);
                depth--;
            }
        }

        private boolean readJoin() {
            int sign = text.next();
            int step = Rule.JOIN + sign;
            int binds = binding(step);
            if (binds < COMPARES) {
                return false;
            }
            if (binds == COMPARES) {
                if ((comparedAtDepths >> depth & 1) == 1) {
                    return false;
                }
                comparedAtDepths |= 1 << depth;
            }
            addWaiting(binds);
            push(step);
            return text.take(sign);
        }

        /** All that waits and binds as much at least: from the left. */
        private void addWaiting(int binds) {
            for (int k = 0; k < RULE_SIGNS && waits > 0 && binding(waiting[waits - 1]) >= binds; k++) {
                waits--;
                rule.add(waiting[waits]);
            }
        }

        private void push(int step) {
            if (waits < waiting.length) {
                waiting[waits] = step;
                waits++;
            }
        }

        private static int binding(int step) {
            switch (step) {
                case Rule.NEGATE: return 4;
                case Rule.JOIN + '*': case Rule.JOIN + '/': return 3;
                case Rule.JOIN + '+': case Rule.JOIN + '-': return 2;
                case Rule.JOIN + '<': case Rule.JOIN + '>': case Rule.JOIN + '=': return COMPARES;
                default: return OPENED;
            }
        }
    }

    /** Reads THE TEXT as the acts of a day. */
    private static final class DayReader {
        final int[] kind = new int[DAY_SIGNS];
        final int[] x = new int[DAY_SIGNS];
        final int[] y = new int[DAY_SIGNS];
        final int[] n = new int[DAY_SIGNS];
        int many;
        private final Text text;

        DayReader(Text text) {
            this.text = text;
        }

        boolean read() {
            many = 0;
            text.startReading(DAY_SIGNS);
            if (text.length == 0) {
                return true;
            }
            for (int k = 0; k < DAY_SIGNS; k++) {
                if (!act(k)) {
                    return false;
                }
                many++;
                if (!text.take(';')) {
                    break;
                }
            }
            return text.isRead();
        }

        private boolean act(int k) {
            kind[k] = text.next();
            x[k] = NONE;
            y[k] = NONE;
            n[k] = NONE;
            switch (kind[k]) {
                case 'q': return text.take('q') && number(k);
                case 'c': return text.take('c') && first(k) && text.take('=') && chairNumber(k);
                case 's': return text.take('s') && first(k);
                case 'w': return text.take('w') && first(k);
                case 'l': return text.take('l') && first(k) && text.take('>') && second(k) && text.take('*') && number(k);
                default: return false;
            }
        }

        private boolean first(int k) {
            x[k] = text.digit(9);
            return x[k] != NONE;
        }

        private boolean second(int k) {
            y[k] = text.digit(9);
            return y[k] != NONE;
        }

        private boolean number(int k) {
            n[k] = text.number(2);
            return n[k] != NONE;
        }

        private boolean chairNumber(int k) {
            n[k] = text.digit(MOST_CHAIRS);
            return n[k] != NONE;
        }
    }

    /** States that can come back: the latest ones, to be undone, and such as were put under a number. */
    private static final class Memory {
        private static final int MOST_UNDOABLE = 10;

        int undoable;
        private final int[][] latest = new int[MOST_UNDOABLE][State.CELLS];
        private int free;
        private final int[][] states = new int[MOST_KEPT][State.CELLS];
        private final int[][] sick = new int[MOST_KEPT][MOST_PEOPLE];
        private final int[][] chairs = new int[MOST_KEPT][MOST_ROOMS];
        private final int[] rooms = new int[MOST_KEPT];
        private final int[] people = new int[MOST_KEPT];

        Memory() {
            for (int i = 0; i < MOST_KEPT; i++) {
                people[i] = NONE;
            }
        }

        void push(State state) {
            System.arraycopy(state.cells, 0, latest[free], 0, State.CELLS);
            free = (free + 1) % MOST_UNDOABLE;
            undoable = Math.min(MOST_UNDOABLE, undoable + 1);
        }

        boolean pop(State state) {
            if (undoable == 0) {
                return false;
            }
            free = (free + MOST_UNDOABLE - 1) % MOST_UNDOABLE;
            undoable--;
            System.arraycopy(latest[free], 0, state.cells, 0, State.CELLS);
            return true;
        }

        void forgetPast() {
            undoable = 0;
        }

        void put(int i, Town town, State state) {
            System.arraycopy(state.cells, 0, states[i], 0, State.CELLS);
            System.arraycopy(town.sick, 0, sick[i], 0, MOST_PEOPLE);
            System.arraycopy(town.chairs, 0, chairs[i], 0, MOST_ROOMS);
            rooms[i] = town.rooms;
            people[i] = town.people;
        }

        /** Rooms and people never go: where there are as many as then, none came since. */
        boolean bringBack(int i, Town town, State state) {
            if (people[i] != town.people || rooms[i] != town.rooms) {
                return false;
            }
            System.arraycopy(states[i], 0, state.cells, 0, State.CELLS);
            System.arraycopy(sick[i], 0, town.sick, 0, MOST_PEOPLE);
            System.arraycopy(chairs[i], 0, town.chairs, 0, MOST_ROOMS);
            return true;
        }
    }

    /** Brings credits to nothing. */
    private static final class Books {
        private static final int GROUPS = 1 << MOST_PEOPLE;

        private final int[] sum = new int[GROUPS];
        private final int[] mostEven = new int[GROUPS];

        /** As many payments as people, less one for each group that adds up to nothing by itself. */
        int groupUp(State state, Numbers groups) {
            addUp(state);
            int left = inDebtOrCredit(state);
            int payments = Integer.bitCount(left);
            groups.clear();
            for (int k = 0; k < MOST_PEOPLE && left != 0; k++) {
                int group = firstGroup(left);
                groups.add(group);
                left &= ~group;
            }
            return payments - groups.many;
        }

        /** A set splits into as many even groups as sets on the way to it, one more each time, are even. */
        private void addUp(State state) {
            sum[0] = 0;
            mostEven[0] = 0;
            for (int set = 1; set < GROUPS; set++) {
                int most = 0;
                for (int person = 0; person < MOST_PEOPLE; person++) {
                    if ((set >> person & 1) == 1) {
                        most = Math.max(most, mostEven[set & ~(1 << person)]);
                        sum[set] = sum[set & ~(1 << person)] + state.cells[State.CREDIT + person];
                    }
                }
                mostEven[set] = sum[set] == 0 ? most + 1 : most;
            }
        }

        private static int inDebtOrCredit(State state) {
            int bits = 0;
            for (int person = 0; person < MOST_PEOPLE; person++) {
                if (state.cells[State.CREDIT + person] != 0) {
                    bits |= 1 << person;
                }
            }
            return bits;
        }

        private int firstGroup(int left) {
            int least = left & -left;
            for (int group = least; group < left; group++) {
                boolean within = (group & ~left) == 0 && (group & least) != 0;
                if (within && sum[group] == 0 && mostEven[left & ~group] == mostEven[left] - 1) {
                    return group;
                }
            }
            return left;
        }

        int payAll(State state, Numbers told) {
            int payments = 0;
            int paid = 0;
            for (int k = 0; k < MOST_PEOPLE; k++) {
                int poorest = 0;
                int richest = 0;
                for (int person = 1; person < MOST_PEOPLE; person++) {
                    poorest = credit(state, person) < credit(state, poorest) ? person : poorest;
                    richest = credit(state, person) > credit(state, richest) ? person : richest;
                }
                int much = Math.min(-credit(state, poorest), credit(state, richest));
                if (much <= 0) {
                    break;
                }
                state.pay(poorest, richest, much);
                payments++;
                paid += much;
            }
            told.clear();
            told.add(paid);
            return payments;
        }

        private static int credit(State state, int person) {
            return state.cells[State.CREDIT + person];
        }
    }

    /** Tries all ways that one, or two, could go through the next quarters. */
    private static final class Search {
        private static final int MOST_STEPS = 1000000;

        int best;
        private final Town tried;
        private final Clock clock;
        private final State state = new State();
        private final int[][] levels = new int[MOST_ALONE + 1][State.CELLS];
        private final int[] good = new int[MOST_ALONE + 1];
        private final int[] moves = new int[MOST_ALONE + 1];
        private final int[] bestMoves = new int[MOST_ALONE + 1];
        private int one;
        private int other;
        private int quarters;

        Search(Town tried, Clock clock) {
            this.tried = tried;
            this.clock = clock;
        }

        /** A quarter is good in which one sits, or, if there is an other one, both sit in one room. */
        void begin(State now, int oneOf, int otherOf, int n) {
            one = oneOf;
            other = otherOf;
            quarters = Math.min(n, MOST_ALONE);
            best = NONE;
            System.arraycopy(now.cells, 0, levels[0], 0, State.CELLS);
        }

        /** In their order, and the next must be better: so the least row of the best ones is found. */
        void tryAll() {
            int ways = other == NONE ? tried.rooms : tried.rooms * tried.rooms;
            int level = 0;
            moves[0] = 0;
            for (int k = 0; k < MOST_STEPS && level >= 0; k++) {
                boolean canBeBetter = good[level] + quarters - level > best;
                if (level < quarters && moves[level] < ways && canBeBetter) {
                    move(level);
                    level++;
                    moves[level] = 0;
                } else {
                    if (level == quarters && canBeBetter) {
                        best = good[level];
                        System.arraycopy(moves, 0, bestMoves, 0, quarters);
                    }
                    level--;
                    if (level >= 0) {
                        moves[level]++;
                    }
                }
            }
        }

        private void move(int level) {
            System.arraycopy(levels[level], 0, state.cells, 0, State.CELLS);
            tried.sendAlways(one, roomOfOne(moves[level]));
            if (other != NONE) {
                tried.sendAlways(other, roomOfOther(moves[level]));
            }
            clock.pass(tried, state);
            boolean isGood = other == NONE ? state.pose(one) == SITS : state.sitTogether(one, other);
            good[level + 1] = good[level] + (isGood ? 1 : 0);
            System.arraycopy(state.cells, 0, levels[level + 1], 0, State.CELLS);
        }

        private int roomOfOne(int way) {
            return other == NONE || tried.rooms <= 0 ? way : way / tried.rooms;
        }

        private int roomOfOther(int way) {
            return tried.rooms <= 0 ? way : way % tried.rooms;
        }

        void tellMoves(Numbers told) {
            told.clear();
            for (int k = 0; k < quarters; k++) {
                told.add(roomOfOne(bestMoves[k]));
                if (other != NONE) {
                    told.add(roomOfOther(bestMoves[k]));
                }
            }
        }
    }
}
