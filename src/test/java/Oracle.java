import java.util.ArrayList;
import java.util.LinkedHashSet;
import java.util.List;
import java.util.NoSuchElementException;
import java.util.Set;
import java.util.regex.Matcher;
import java.util.regex.Pattern;

/**
 * The document once more, as slowly and as differently from the program as could be: copies of whole worlds, rules worked
 * out from their texts each time, texts judged sign by sign, and every way tried where the least or most is asked for.
 */
final class Oracle {
    static final int NONE = -1;
    private static final Pattern TOWN = Pattern.compile("(r[0-8]|[0-9]{1,2}!?)(;(r[0-8]|[0-9]{1,2}!?))*");
    private static final String ACT = "(q[0-9]{1,2}|c[0-9]=[0-8]|[sw][0-9]|l[0-9]>[0-9]\\*[0-9]{1,2})";
    private static final Pattern DAY = Pattern.compile(ACT + "(;" + ACT + ")*");

    private static final class Person implements Cloneable {
        int age;
        boolean sick;
        String plan = "";
        int shift;
        int room = NONE;
        boolean sits;
        int s;
        int t;
        int a;
        int b;
        int c;

        @Override
        public Person clone() {
            try {
                return (Person) super.clone();
            } catch (CloneNotSupportedException e) {
                throw new AssertionError(e);
            }
        }
    }

    private static final class World {
        List<Integer> chairs = new ArrayList<>();
        List<Person> people = new ArrayList<>();
        int[][] gave = new int[8][8];
        int now;
        String ask = "t";
        String give = "s";
        int[] lastAsker = new int[4];
        int[] lastGiver = new int[4];

        World copy() {
            World w = new World();
            w.chairs.addAll(chairs);
            for (Person p : people) {
                w.people.add(p.clone());
            }
            for (int i = 0; i < 8; i++) {
                w.gave[i] = gave[i].clone();
            }
            w.now = now;
            w.ask = ask;
            w.give = give;
            return w;
        }

        int value(String rule, int who) {
            return work(rule, people.get(who), who);
        }

        int pick(String rule, List<Integer> those) {
            int best = those.get(0);
            for (int who : those) {
                if (value(rule, who) > value(rule, best)) {
                    best = who;
                }
            }
            return best;
        }

        List<Integer> those(int room, boolean sits) {
            List<Integer> list = new ArrayList<>();
            for (int i = 0; i < people.size(); i++) {
                if (people.get(i).room == room && people.get(i).sits == sits) {
                    list.add(i);
                }
            }
            return list;
        }

        int stood() {
            int sum = 0;
            for (Person p : people) {
                sum += p.b;
            }
            return sum;
        }

        int standing() {
            int n = 0;
            for (Person p : people) {
                n += p.room != NONE && !p.sits ? 1 : 0;
            }
            return n;
        }

        int go(int n) {
            int asked = 0;
            for (int k = 0; k < n; k++) {
                asked += quarter();
            }
            return asked;
        }

        int quarter() {
            int asked = 0;
            for (Person p : people) {
                int to = NONE;
                if (!p.plan.isEmpty()) {
                    char sign = p.plan.charAt((now + p.shift) % p.plan.length());
                    to = sign == '-' ? NONE : sign - '0';
                }
                if (to == NONE || to != p.room) {
                    p.sits = false;
                }
                p.room = to;
            }
            for (int room = 0; room < chairs.size(); room++) {
                while (those(room, true).size() > chairs.get(room)) {
                    people.get(pick(give, those(room, true))).sits = false;
                    // Who stood up is not to sit down again: as many sit then as there are chairs.
                }
                while (those(room, true).size() < chairs.get(room) && !those(room, false).isEmpty()) {
                    people.get(pick(ask, those(room, false))).sits = true;
                }
                List<Integer> may = those(room, false);
                may.removeIf(i -> people.get(i).t < 1);
                List<Integer> can = those(room, true);
                can.removeIf(i -> people.get(i).s < 1 || people.get(i).sick);
                lastAsker[room] = NONE;
                lastGiver[room] = NONE;
                if (!may.isEmpty() && !can.isEmpty()) {
                    int asker = pick(ask, may);
                    int giver = pick(give, can);
                    people.get(asker).sits = true;
                    people.get(giver).sits = false;
                    people.get(giver).c++;
                    people.get(asker).c--;
                    gave[giver][asker]++;
                    lastAsker[room] = asker;
                    lastGiver[room] = giver;
                    asked++;
                }
            }
            for (Person p : people) {
                if (p.room == NONE) {
                    p.s = 0;
                    p.t = 0;
                } else if (p.sits) {
                    p.s++;
                    p.a++;
                    p.t = 0;
                } else {
                    p.t++;
                    p.b++;
                    p.s = 0;
                }
            }
            now++;
            return asked;
        }
    }

    /** Works out an expression that is right: its last sign that binds least parts it. */
    private static int work(String e, Person p, int who) {
        int at = lastOutside(e, "<>=");
        if (at < 0) {
            at = lastOutside(e, "+-");
        }
        if (at < 0) {
            at = lastOutside(e, "*/");
        }
        if (at >= 0) {
            int left = work(e.substring(0, at), p, who);
            int right = work(e.substring(at + 1), p, who);
            switch (e.charAt(at)) {
                case '<': return left < right ? 1 : 0;
                case '>': return left > right ? 1 : 0;
                case '=': return left == right ? 1 : 0;
                case '+': return left + right;
                case '-': return left - right;
                case '*': return left * right;
                default: return right == 0 ? 0 : (int) ((long) left / right);
            }
        }
        char first = e.charAt(0);
        if (first == '-') {
            return -work(e.substring(1), p, who);
        }
        if (first == '(') {
            return work(e.substring(1, e.length() - 1), p, who);
        }
        switch (first) {
            case 'i': return who;
            case 'g': return p.age;
            case 'k': return p.sick ? 1 : 0;
            case 's': return p.s;
            case 't': return p.t;
            case 'a': return p.a;
            case 'b': return p.b;
            case 'c': return p.c;
            default: return Integer.parseInt(e);
        }
    }

    private static int lastOutside(String e, String signs) {
        int deep = 0;
        for (int k = e.length() - 1; k > 0; k--) {
            char sign = e.charAt(k);
            if (sign == ')') {
                deep++;
            } else if (sign == '(') {
                deep--;
            } else if (deep == 0 && signs.indexOf(sign) >= 0) {
                char ahead = e.charAt(k - 1);
                if (Character.isLetterOrDigit(ahead) || ahead == ')') {
                    return k;
                }
            }
        }
        return -1;
    }

    /** -1: right; else the place of the first sign that can't stand there. */
    private static int ruleFault(String text, int limit) {
        boolean wantsThing = true;
        int digits = 0;
        List<Boolean> compared = new ArrayList<>(List.of(false));
        for (int k = 0; k < text.length(); k++) {
            if (k == limit) {
                return limit;
            }
            char sign = text.charAt(k);
            int top = compared.size() - 1;
            if (wantsThing) {
                if (sign == '(' && top < 4) {
                    compared.add(false);
                } else if ("igkstabc".indexOf(sign) >= 0) {
                    wantsThing = false;
                    digits = 0;
                } else if (sign >= '0' && sign <= '9') {
                    wantsThing = false;
                    digits = 1;
                } else if (sign != '-') {
                    return k;
                }
            } else if (sign >= '0' && sign <= '9' && digits > 0 && digits < 3) {
                digits++;
            } else if ("+-*/".indexOf(sign) >= 0) {
                wantsThing = true;
            } else if ("<>=".indexOf(sign) >= 0 && !compared.get(top)) {
                compared.set(top, true);
                wantsThing = true;
            } else if (sign == ')' && top > 0) {
                compared.remove(top);
                digits = 0;
            } else {
                return k;
            }
        }
        return wantsThing || compared.size() > 1 ? text.length() : -1;
    }

    private static int fault(Pattern pattern, String text, int limit) {
        for (int k = 0; k < text.length(); k++) {
            if (k == limit) {
                return limit;
            }
            Matcher m = pattern.matcher(text.substring(0, k + 1));
            if (!m.matches() && !m.hitEnd()) {
                return k;
            }
        }
        return pattern.matcher(text).matches() ? -1 : text.length();
    }

    private int townFault(String said) {
        int wrong = fault(TOWN, said, 76);
        int rooms = world.chairs.size();
        int people = world.people.size();
        int start = 0;
        for (String line : said.split(";", -1)) {
            if (!line.isEmpty()) {
                boolean room = line.charAt(0) == 'r';
                if (room ? rooms++ >= 4 : people++ >= 8) {
                    return wrong >= 0 ? Math.min(wrong, start) : start;
                }
            }
            start += line.length() + 1;
        }
        return wrong;
    }

    private World world = new World();
    private StringBuilder text = new StringBuilder();
    private List<Integer> row = new ArrayList<>();
    private final List<World> past = new ArrayList<>();
    private final World[] kept = new World[2];
    private final List<int[]> told = new ArrayList<>();

    private String takeText() {
        String said = text.toString();
        text.setLength(0);
        return said;
    }

    private void tell(int... numbers) {
        row = new ArrayList<>();
        for (int n : numbers) {
            row.add(n);
        }
    }

    private boolean isPerson(int i) {
        return i >= 0 && i < world.people.size();
    }

    private boolean isRoom(int i) {
        return i >= 0 && i < world.chairs.size();
    }

    private boolean areTwo(int one, int other) {
        return isPerson(one) && isPerson(other) && one != other;
    }

    private static boolean bad(int n, int from, int to) {
        return n < from || n > to;
    }

    private World after(int n) {
        World w = world.copy();
        w.go(n);
        return w;
    }

    int sign(int v) {
        if (text.length() > 76) {
            return NONE;
        }
        for (int shift = 24; shift >= 0; shift -= 8) {
            text.append((char) ((v >> shift) & 0xff));
        }
        return text.length();
    }

    boolean end(int n) {
        if (n < 0 || n > text.length()) {
            return false;
        }
        text.setLength(n);
        return true;
    }

    int town() {
        String said = takeText();
        if (said.isEmpty()) {
            return 0;
        }
        int wrong = townFault(said);
        if (wrong >= 0) {
            return -1 - wrong;
        }
        for (String line : said.split(";")) {
            if (line.startsWith("r")) {
                world.chairs.add(line.charAt(1) - '0');
            } else {
                Person p = new Person();
                p.sick = line.endsWith("!");
                p.age = Integer.parseInt(line.replace("!", ""));
                world.people.add(p);
            }
        }
        past.clear();
        return said.split(";").length;
    }

    int plan(int person) {
        String said = takeText();
        if (!isPerson(person)) {
            return -100;
        }
        for (int k = 0; k < said.length(); k++) {
            if (k == 24) {
                return -25;
            }
            char sign = said.charAt(k);
            if (sign != '-' && !(sign >= '0' && sign < '0' + world.chairs.size())) {
                return -1 - k;
            }
        }
        world.people.get(person).plan = said;
        return said.length();
    }

    int rule(int i) {
        String said = takeText();
        if (i != 0 && i != 1) {
            return -100;
        }
        int wrong = said.isEmpty() ? -1 : ruleFault(said, 40);
        if (wrong >= 0) {
            return -1 - wrong;
        }
        if (i == 0) {
            world.ask = said.isEmpty() ? "t" : said;
        } else {
            world.give = said.isEmpty() ? "s" : said;
        }
        return 0;
    }

    int of(int person, int what) {
        if (!isPerson(person) || bad(what, 0, 10)) {
            throw new NoSuchElementException();
        }
        Person p = world.people.get(person);
        int[] all = {p.age, p.sick ? 1 : 0, p.room, p.sits ? 1 : 0, p.s, p.t, p.a, p.b, p.c, world.value(world.ask, person),
            world.value(world.give, person)};
        return all[what];
    }

    int chairs(int room, int v) {
        return !isRoom(room) || bad(v, 0, 8) ? NONE : world.chairs.set(room, v);
    }

    boolean sick(int person, boolean is) {
        if (isPerson(person)) {
            world.people.get(person).sick = is;
        }
        return isPerson(person);
    }

    int sheet(int kind, int n, int f, int step) {
        if (bad(kind, 0, 3) || n > 8) {
            return NONE;
        }
        if (kind < 3 && n < 0) {
            return -2;
        }
        int sum = 0;
        for (int i = 0; i < world.people.size(); i++) {
            int entry = f;
            for (int k = 0; k < i; k++) {
                entry += step;
            }
            long age = kind == 0 ? (byte) entry : kind == 1 ? (short) entry : entry;
            age = age < 0 ? 0 : age > 99 ? 99 : age;
            world.people.get(i).age = kind < 3 && i < n ? (int) age : 0;
            sum += world.people.get(i).age;
        }
        return kind == 3 ? -3 : sum;
    }

    private int pass(int n) {
        if (n > 0) {
            past.add(world.copy());
            if (past.size() > 10) {
                past.remove(0);
            }
        }
        return world.go(n);
    }

    int quarters(int n) {
        if (bad(n, 0, 200)) {
            return NONE;
        }
        int before = world.stood();
        int asked = pass(n);
        tell(world.standing(), world.stood() - before);
        return asked;
    }

    int undo() {
        if (past.isEmpty()) {
            return NONE;
        }
        World then = past.remove(past.size() - 1);
        for (int i = 0; i < then.people.size(); i++) {
            Person was = then.people.get(i);
            Person is = world.people.get(i);
            is.room = was.room;
            is.sits = was.sits;
            is.s = was.s;
            is.t = was.t;
            is.a = was.a;
            is.b = was.b;
            is.c = was.c;
        }
        world.gave = then.gave;
        world.now = then.now;
        return past.size();
    }

    private static int bits(List<Integer> those) {
        int bits = 0;
        for (int i : those) {
            bits += 1 << i;
        }
        return bits;
    }

    int in(int room) {
        if (!isRoom(room)) {
            return NONE;
        }
        tell(bits(world.those(room, true)));
        return bits(world.those(room, true)) + bits(world.those(room, false));
    }

    int asks(int room) {
        if (!isRoom(room)) {
            return NONE;
        }
        World next = after(1);
        if (next.lastAsker[room] == NONE) {
            return -2;
        }
        tell(next.lastGiver[room]);
        return next.lastAsker[room];
    }

    int queue(int room) {
        if (!isRoom(room)) {
            return NONE;
        }
        List<Integer> stand = world.those(room, false);
        stand.sort((i, j) -> Integer.compare(world.value(world.ask, j), world.value(world.ask, i)));
        List<Integer> sit = world.those(room, true);
        sit.sort((i, j) -> Integer.compare(world.value(world.give, j), world.value(world.give, i)));
        stand.addAll(sit);
        row = stand;
        return stand.size();
    }

    int day() {
        String said = takeText();
        if (said.isEmpty()) {
            tell(0, 0, 0);
            return 0;
        }
        int wrong = fault(DAY, said, 60);
        if (wrong >= 0) {
            return -1 - wrong;
        }
        int done = 0;
        int passed = 0;
        int asked = 0;
        for (String act : said.split(";")) {
            String[] numbers = act.substring(1).split("[=>*]");
            int x = Integer.parseInt(numbers[0]);
            boolean right = true;
            switch (act.charAt(0)) {
                case 'q':
                    asked += pass(x);
                    passed += x;
                    break;
                case 'c':
                    right = chairs(x, Integer.parseInt(numbers[1])) >= 0;
                    break;
                case 'l':
                    right = lend(x, Integer.parseInt(numbers[1]), Integer.parseInt(numbers[2]));
                    break;
                default:
                    right = sick(x, act.charAt(0) == 's');
                    break;
            }
            if (!right) {
                tell(passed, asked, 1);
                return done;
            }
            done++;
        }
        tell(passed, asked, 0);
        return done;
    }

    int will(int person, int n) {
        if (!isPerson(person) || bad(n, 0, 30)) {
            throw new NoSuchElementException();
        }
        int bits = 0;
        for (int k = n; k >= 1; k--) {
            Person p = after(k).people.get(person);
            bits = 2 * bits + (p.room != NONE && !p.sits ? 1 : 0);
        }
        return bits;
    }

    int longest(int person, int n) {
        if (!isPerson(person) || bad(n, 0, 200)) {
            return NONE;
        }
        World w = world.copy();
        List<Integer> ts = new ArrayList<>(List.of(w.people.get(person).t));
        for (int k = 0; k < n; k++) {
            w.quarter();
            ts.add(w.people.get(person).t);
        }
        int most = ts.stream().max(Integer::compare).get();
        tell(ts.indexOf(most));
        return most;
    }

    int gave(int one, int other) {
        return areTwo(one, other) ? world.gave[one][other] : NONE;
    }

    int pair() {
        int most = 0;
        tell();
        for (int i = 7; i >= 0; i--) {
            for (int j = 7; j > i; j--) {
                int both = world.gave[i][j] + world.gave[j][i];
                if (both > 0 && both >= most) {
                    most = both;
                    tell(i, j);
                }
            }
        }
        return most;
    }

    boolean lend(int from, int to, int n) {
        if (!areTwo(from, to) || bad(n, 1, 999)) {
            return false;
        }
        world.people.get(from).c += n;
        world.people.get(to).c -= n;
        past.clear();
        return true;
    }

    int fewest() {
        List<Integer> open = new ArrayList<>();
        for (int i = 0; i < world.people.size(); i++) {
            if (world.people.get(i).c != 0) {
                open.add(i);
            }
        }
        List<List<Integer>> ways = new ArrayList<>();
        split(open, 0, new ArrayList<>(), ways);
        List<Integer> best = ways.get(0);
        for (List<Integer> way : ways) {
            if (way.size() > best.size() || way.size() == best.size() && less(way, best)) {
                best = way;
            }
        }
        row = best;
        return open.size() - best.size();
    }

    /** All ways to put people into groups, one after the other into a group that is there or a new one. */
    private void split(List<Integer> open, int k, List<Integer> groups, List<List<Integer>> ways) {
        if (k == open.size()) {
            for (int group : groups) {
                int sum = 0;
                for (int i = 0; i < 8; i++) {
                    sum += (group >> i & 1) == 1 ? world.people.get(i).c : 0;
                }
                if (sum != 0) {
                    return;
                }
            }
            ways.add(new ArrayList<>(groups));
            return;
        }
        int bit = 1 << open.get(k);
        for (int g = 0; g < groups.size(); g++) {
            groups.set(g, groups.get(g) | bit);
            split(open, k + 1, groups, ways);
            groups.set(g, groups.get(g) & ~bit);
        }
        groups.add(bit);
        split(open, k + 1, groups, ways);
        groups.remove(groups.size() - 1);
    }

    private static boolean less(List<Integer> one, List<Integer> other) {
        for (int k = 0; k < one.size(); k++) {
            if (!one.get(k).equals(other.get(k))) {
                return one.get(k) < other.get(k);
            }
        }
        return false;
    }

    int settle() {
        past.clear();
        int payments = 0;
        int paid = 0;
        while (world.people.stream().anyMatch(p -> p.c != 0)) {
            Person least = world.people.get(0);
            Person most = world.people.get(0);
            for (Person p : world.people) {
                least = p.c < least.c ? p : least;
                most = p.c > most.c ? p : most;
            }
            int n = Math.min(Math.abs(least.c), Math.abs(most.c));
            least.c += n;
            most.c -= n;
            payments++;
            paid += n;
        }
        tell(paid);
        return payments;
    }

    /** Every way of rooms by quarters, each from the beginning; the best by how good, then the least row. */
    private int tryAll(List<Integer> who, int n, boolean together) {
        int rooms = world.chairs.size();
        int signs = who.size() * n;
        int ways = (int) Math.round(Math.pow(rooms, signs));
        int best = -1;
        for (int way = 0; way < ways; way++) {
            int[] moves = new int[signs];
            for (int k = signs - 1, rest = way; k >= 0; k--, rest /= rooms) {
                moves[k] = rest % rooms;
            }
            World w = world.copy();
            int good = 0;
            for (int q = 0; q < n; q++) {
                for (int k = 0; k < who.size(); k++) {
                    w.people.get(who.get(k)).plan = "" + moves[q * who.size() + k];
                }
                w.quarter();
                Person one = w.people.get(who.get(0));
                Person other = w.people.get(who.get(who.size() - 1));
                good += one.sits && other.sits && one.room == other.room ? 1 : 0;
            }
            if (good > best) {
                best = good;
                tell(moves);
            }
        }
        return best;
    }

    int least(int person, int n) {
        if (!isPerson(person) || bad(n, 0, 5)) {
            return NONE;
        }
        return world.chairs.isEmpty() ? -2 : n - tryAll(List.of(person), n, false);
    }

    int together(int one, int other, int n) {
        if (!areTwo(one, other) || bad(n, 0, 3)) {
            return NONE;
        }
        return world.chairs.isEmpty() ? -2 : tryAll(List.of(one, other), n, true);
    }

    private static boolean sitTogether(World w, int one, int other) {
        return w.people.get(one).sits && w.people.get(other).sits && w.people.get(one).room == w.people.get(other).room;
    }

    int both(int one, int other) {
        if (!areTwo(one, other)) {
            return NONE;
        }
        World w = world.copy();
        int k = 0;
        do {
            w.quarter();
            k++;
        } while (k < 200 && !sitTogether(w, one, other));
        return sitTogether(w, one, other) ? k : -2;
    }

    int often(int one, int other, int n) {
        if (!areTwo(one, other) || bad(n, 0, 200)) {
            return NONE;
        }
        World w = world.copy();
        int times = 0;
        for (int k = 0; k < n; k++) {
            w.quarter();
            times += sitTogether(w, one, other) ? 1 : 0;
        }
        return times;
    }

    private static void swapIn(World w, int one, int other) {
        String plan = w.people.get(one).plan;
        w.people.get(one).plan = w.people.get(other).plan;
        w.people.get(other).plan = plan;
    }

    boolean swap(int one, int other) {
        if (!areTwo(one, other)) {
            return false;
        }
        swapIn(world, one, other);
        return true;
    }

    int exchange(int n) {
        if (bad(n, 0, 100)) {
            return NONE;
        }
        if (world.people.size() < 2) {
            return -2;
        }
        int before = world.stood();
        int best = Integer.MAX_VALUE;
        for (int i = 0; i < world.people.size(); i++) {
            for (int j = i + 1; j < world.people.size(); j++) {
                World w = world.copy();
                swapIn(w, i, j);
                w.go(n);
                if (w.stood() - before < best) {
                    best = w.stood() - before;
                    tell(i, j, after(n).stood() - before - best);
                }
            }
        }
        return best;
    }

    int delay(int person, int n) {
        if (!isPerson(person) || bad(n, 0, 100)) {
            return NONE;
        }
        Person p = world.people.get(person);
        if (p.plan.isEmpty()) {
            return -2;
        }
        int best = Integer.MAX_VALUE;
        for (int k = 0; k < p.plan.length(); k++) {
            World w = world.copy();
            w.people.get(person).shift = k;
            w.go(n);
            if (w.people.get(person).b - p.b < best) {
                best = w.people.get(person).b - p.b;
                tell(k);
            }
        }
        return best;
    }

    int crowd(int n) {
        if (bad(n, 1, 100)) {
            return NONE;
        }
        if (world.chairs.isEmpty()) {
            return -2;
        }
        int most = -1;
        World w = world.copy();
        for (int k = 1; k <= n; k++) {
            w.quarter();
            for (int room = 0; room < w.chairs.size(); room++) {
                int there = w.those(room, true).size() + w.those(room, false).size();
                if (there > most) {
                    most = there;
                    tell(k, room);
                }
            }
        }
        return most;
    }

    int calm(int n) {
        if (bad(n, 0, 200)) {
            return NONE;
        }
        List<Integer> when = new ArrayList<>();
        World w = world.copy();
        for (int k = 1; k <= n; k++) {
            w.quarter();
            if (w.standing() == 0) {
                when.add(k);
            }
        }
        tell(when.isEmpty() ? NONE : when.get(0));
        return when.size();
    }

    int more(int n) {
        if (bad(n, 0, 100)) {
            return NONE;
        }
        if (world.chairs.isEmpty()) {
            return -2;
        }
        World asItIs = after(n);
        int best = -1;
        World bestWorld = null;
        for (int room = world.chairs.size() - 1; room >= 0; room--) {
            World w = world.copy();
            w.chairs.set(room, Math.min(8, w.chairs.get(room) + 1));
            w.go(n);
            if (bestWorld == null || w.stood() <= bestWorld.stood()) {
                best = room;
                bestWorld = w;
            }
        }
        int freed = NONE;
        int most = 0;
        for (int i = 0; i < world.people.size(); i++) {
            int less = asItIs.people.get(i).b - bestWorld.people.get(i).b;
            if (less > most) {
                most = less;
                freed = i;
            }
        }
        tell(asItIs.stood() - bestWorld.stood(), freed);
        return best;
    }

    int feast(int n) {
        if (bad(n, 0, 100)) {
            return NONE;
        }
        if (world.chairs.size() < 2) {
            return -2;
        }
        int best = Integer.MAX_VALUE;
        for (int i = 0; i < world.chairs.size(); i++) {
            for (int j = i + 1; j < world.chairs.size(); j++) {
                World w = world.copy();
                w.chairs.set(i, w.chairs.get(i) + w.chairs.get(j));
                for (Person p : w.people) {
                    p.plan = p.plan.replace((char) ('0' + j), (char) ('0' + i));
                }
                w.go(n);
                if (w.stood() - world.stood() < best) {
                    best = w.stood() - world.stood();
                    tell(i, j);
                }
            }
        }
        return best;
    }

    int told(int person, int stood) {
        if (!isPerson(person) || bad(stood, 0, 100) || told.size() == 8) {
            return NONE;
        }
        told.add(new int[] {person, stood});
        return told.size();
    }

    int forget() {
        int n = told.size();
        told.clear();
        return n;
    }

    private boolean fits(World w, int n) {
        World w2 = w.copy();
        w2.go(n);
        for (int[] one : told) {
            if (w2.people.get(one[0]).b - world.people.get(one[0]).b != one[1]) {
                return false;
            }
        }
        return true;
    }

    int stolen(int n) {
        if (bad(n, 0, 100)) {
            return NONE;
        }
        int bits = 0;
        for (int room = 0; room < world.chairs.size(); room++) {
            World w = world.copy();
            if (w.chairs.get(room) > 0) {
                w.chairs.set(room, w.chairs.get(room) - 1);
                bits += fits(w, n) ? 1 << room : 0;
            }
        }
        tell(fits(world, n) ? 1 : 0);
        return bits;
    }

    int even(int n) {
        if (bad(n, 0, 200)) {
            return NONE;
        }
        if (world.people.isEmpty()) {
            return -2;
        }
        int[] differ = new int[4];
        int best = 3;
        for (int k = 3; k >= 0; k--) {
            World w = world.copy();
            w.ask = new String[] {w.ask, "g", "b", "c"}[k];
            w.go(n);
            int[] bs = w.people.stream().mapToInt(p -> p.b).sorted().toArray();
            differ[k] = bs[bs.length - 1] - bs[0];
            best = differ[k] <= differ[best] ? k : best;
        }
        tell(differ);
        return best;
    }

    int spares(int person, int n) {
        if (!isPerson(person) || bad(n, 0, 100)) {
            throw new NoSuchElementException();
        }
        World w = world.copy();
        w.people.get(person).sick = !w.people.get(person).sick;
        w.go(n);
        return after(n).people.get(person).b - w.people.get(person).b;
    }

    private static String picture(World w) {
        StringBuilder all = new StringBuilder();
        for (Person p : w.people) {
            all.append(p.room).append(p.sits).append(p.s).append(',').append(p.t).append(';');
            all.append(p.plan.isEmpty() ? 0 : w.now % p.plan.length()).append('|');
        }
        return all.toString();
    }

    int round() {
        World w = world.copy();
        Set<String> seen = new LinkedHashSet<>(List.of(picture(w)));
        for (int k = 1; k <= 500; k++) {
            w.quarter();
            if (!seen.add(picture(w))) {
                tell(new ArrayList<>(seen).indexOf(picture(w)));
                return k;
            }
        }
        return -2;
    }

    boolean keep(int i) {
        if (bad(i, 0, 1)) {
            return false;
        }
        kept[i] = world.copy();
        return true;
    }

    boolean again(int i) {
        if (bad(i, 0, 1) || kept[i] == null || kept[i].people.size() != world.people.size()
            || kept[i].chairs.size() != world.chairs.size()) {
            return false;
        }
        World w = kept[i].copy();
        w.ask = world.ask;
        w.give = world.give;
        for (int k = 0; k < w.people.size(); k++) {
            w.people.get(k).age = world.people.get(k).age;
            w.people.get(k).plan = world.people.get(k).plan;
        }
        world = w;
        past.clear();
        return true;
    }

    int count(int what) {
        int sit = 0;
        int stand = 0;
        int chairs = 0;
        for (int room = 0; room < world.chairs.size(); room++) {
            sit += bits(world.those(room, true));
            stand += bits(world.those(room, false));
            chairs += world.chairs.get(room);
        }
        int[] all = {world.people.size(), world.chairs.size(), world.now, sit, stand, past.size(), told.size(), row.size(),
            text.length(), chairs};
        return bad(what, 0, 9) ? NONE : all[what];
    }

    int row(int i) {
        if (bad(i, 0, row.size() - 1)) {
            throw new NoSuchElementException();
        }
        return row.get(i);
    }
}
