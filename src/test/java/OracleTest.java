import java.util.NoSuchElementException;
import java.util.Random;
import java.util.function.IntSupplier;

/**
 * Random calls on the program and on the oracle, and looks at what can be seen after each: every answer must be the same.
 * A run ends with the 512th call, as what later ones answer is free. Called by hand with a first seed and how many runs, it
 * goes further; the seeds of CI are written here.
 */
public final class OracleTest {
    private static final int CALLS = 43;
    private static final int MOST_MADE = 512;

    private final Random random;
    private final OneChairShort x = new OneChairShort();
    private final Oracle o = new Oracle();
    private final StringBuilder story = new StringBuilder();
    private int made;

    private OracleTest(long seed) {
        random = new Random(seed);
    }

    public static void main(String[] args) {
        boolean byHand = args.length == 2;
        long first = byHand ? Long.parseLong(args[0]) : 1;
        int runs = byHand ? Integer.parseInt(args[1]) : 1500;
        for (long seed = first; seed < first + runs; seed++) {
            new OracleTest(seed).run(seed);
        }
        System.out.println("OracleTest: " + runs + " runs of " + MOST_MADE + " calls, all answers the same");
    }

    private void run(long seed) {
        story.append("seed ").append(seed).append('\n');
        say(random.nextInt(5) == 0 ? town() : crowdedTown());
        same("town()", x::town, o::town);
        for (int person = 0; person < Math.min(8, o.count(0) + random.nextInt(2)); person++) {
            int who = person;
            say(plan());
            same("plan(" + who + ")", () -> x.plan(who), () -> o.plan(who));
        }
        if (random.nextInt(3) > 0) {
            rules();
        }
        while (made < MOST_MADE) {
            call(random.nextInt(CALLS));
            look();
        }
    }

    private void rules() {
        for (int i = 0; i < 2; i++) {
            int which = i;
            say(expression(0));
            same("rule(" + which + ")", () -> x.rule(which), () -> o.rule(which));
        }
    }

    /** The whole ROW, and now and then some counts, or one of PEOPLE. */
    private void look() {
        if (random.nextInt(3) > 0) {
            same("count(7)", () -> x.count(7), () -> o.count(7));
            for (int i = -1; i <= o.count(7); i++) {
                int at = i;
                same("row(" + at + ")", () -> x.row(at), () -> o.row(at));
            }
        }
        for (int k = 0; k < 2; k++) {
            int what = random.nextInt(12) - 1;
            same("count(" + what + ")", () -> x.count(what), () -> o.count(what));
        }
        if (random.nextInt(8) == 0 && o.count(0) > 0) {
            lookAt(random.nextInt(o.count(0)));
        }
    }

    private void lookAt(int person) {
        for (int what = 0; what <= 10; what++) {
            int w = what;
            same("of(" + person + ", " + w + ")", () -> x.of(person, w), () -> o.of(person, w));
        }
        for (int other = 0; other < o.count(0); other++) {
            int q = other;
            same("gave(" + person + ", " + q + ")", () -> x.gave(person, q), () -> o.gave(person, q));
        }
    }

    private static String answer(IntSupplier call) {
        try {
            return "" + call.getAsInt();
        } catch (NoSuchElementException e) {
            return "throws.NoSuchElementException";
        }
    }

    private void same(String call, IntSupplier program, IntSupplier oracle) {
        if (made >= MOST_MADE) {
            return;
        }
        made++;
        String is = answer(program);
        String due = answer(oracle);
        if (!call.startsWith("row") && !call.contains("count(") && !call.startsWith("of(") && !call.startsWith("gave(")) {
            story.append(call).append(" = ").append(is).append('\n');
        }
        if (!is.equals(due)) {
            System.out.print(story);
            System.out.println(call + " answered " + is + ", by the oracle it is " + due);
            System.exit(1);
        }
    }

    private static int bit(boolean is) {
        return is ? 1 : 0;
    }

    private void say(String text) {
        int calls = 2 + (text.length() + 3) / 4;
        if (made + calls >= MOST_MADE) {
            made = MOST_MADE;
            return;
        }
        made += calls;
        story.append("THE TEXT is '").append(text).append("'\n");
        x.end(0);
        o.end(0);
        for (int k = 0; k < text.length(); k += 4) {
            int v = 0;
            for (int j = k; j < k + 4; j++) {
                v = v << 8 | (j < text.length() ? text.charAt(j) : random.nextInt(256));
            }
            x.sign(v);
            o.sign(v);
        }
        x.end(text.length());
        o.end(text.length());
    }

    private int person() {
        return odd() ? wild() : random.nextInt(Math.max(1, o.count(0)));
    }

    private int room() {
        return odd() ? wild() : random.nextInt(Math.max(1, o.count(1)));
    }

    private int upTo(int most) {
        if (odd()) {
            return random.nextBoolean() ? wild() : most + 1;
        }
        return random.nextInt(8) == 0 ? most : random.nextInt(most + 1);
    }

    private boolean odd() {
        return random.nextInt(25) == 0;
    }

    private int wild() {
        int[] some = {-1, 8, 9, 4, 5, Integer.MIN_VALUE, Integer.MAX_VALUE, random.nextInt()};
        return some[random.nextInt(some.length)];
    }

    private void call(int which) {
        int p = person();
        int q = person();
        int r = room();
        switch (which) {
            case 0: case 1: case 2: text(which); break;
            case 3: { int v = random.nextInt(); same("sign(" + v + ")", () -> x.sign(v), () -> o.sign(v)); break; }
            case 4: { int n = upTo(80); same("end(" + n + ")", () -> bit(x.end(n)), () -> bit(o.end(n))); break; }
            case 5: { int w = upTo(10); same("see of(" + p + ", " + w + ")", () -> x.of(p, w), () -> o.of(p, w)); break; }
            case 6: { int v = upTo(random.nextBoolean() ? 2 : 8); same("chairs(" + r + ", " + v + ")", () -> x.chairs(r, v), () -> o.chairs(r, v)); break; }
            case 7: { boolean is = random.nextInt(3) == 0; same("sick(" + p + ", " + is + ")", () -> bit(x.sick(p, is)), () -> bit(o.sick(p, is))); break; }
            case 8: sheet(); break;
            case 9: case 10: case 11: { int n = upTo(random.nextInt(4) == 0 ? 200 : 5); same("quarters(" + n + ")", () -> x.quarters(n), () -> o.quarters(n)); break; }
            case 12: same("undo()", x::undo, o::undo); break;
            case 13: same("in(" + r + ")", () -> x.in(r), () -> o.in(r)); break;
            case 14: same("asks(" + r + ")", () -> x.asks(r), () -> o.asks(r)); break;
            case 15: same("queue(" + r + ")", () -> x.queue(r), () -> o.queue(r)); break;
            case 16: { int n = upTo(30); same("will(" + p + ", " + n + ")", () -> x.will(p, n), () -> o.will(p, n)); break; }
            case 17: { int n = upTo(200); same("longest(" + p + ", " + n + ")", () -> x.longest(p, n), () -> o.longest(p, n)); break; }
            case 18: same("see gave(" + p + ", " + q + ")", () -> x.gave(p, q), () -> o.gave(p, q)); break;
            case 19: same("pair()", x::pair, o::pair); break;
            case 20: { int n = upTo(random.nextBoolean() ? 4 : 999); same("lend(" + p + ", " + q + ", " + n + ")", () -> bit(x.lend(p, q, n)), () -> bit(o.lend(p, q, n))); break; }
            case 21: same("fewest()", x::fewest, o::fewest); break;
            case 22: if (random.nextInt(3) == 0) { same("settle()", x::settle, o::settle); } break;
            default: look(which, p, q); break;
        }
    }

    private void look(int which, int p, int q) {
        int few = random.nextInt(4) > 0 ? random.nextInt(12) : upTo(100);
        int many = random.nextInt(4) > 0 ? random.nextInt(20) : upTo(200);
        switch (which) {
            case 23: { int n = random.nextInt(6) > 0 ? random.nextInt(4) : upTo(5); same("least(" + p + ", " + n + ")", () -> x.least(p, n), () -> o.least(p, n)); break; }
            case 24: { int n = random.nextInt(6) > 0 ? random.nextInt(3) : upTo(3); same("together(" + p + ", " + q + ", " + n + ")", () -> x.together(p, q, n), () -> o.together(p, q, n)); break; }
            case 25: same("both(" + p + ", " + q + ")", () -> x.both(p, q), () -> o.both(p, q)); break;
            case 26: same("often(" + p + ", " + q + ", " + many + ")", () -> x.often(p, q, many), () -> o.often(p, q, many)); break;
            case 27: same("swap(" + p + ", " + q + ")", () -> bit(x.swap(p, q)), () -> bit(o.swap(p, q))); break;
            case 28: same("exchange(" + few + ")", () -> x.exchange(few), () -> o.exchange(few)); break;
            case 29: same("delay(" + p + ", " + few + ")", () -> x.delay(p, few), () -> o.delay(p, few)); break;
            case 30: same("crowd(" + few + ")", () -> x.crowd(few), () -> o.crowd(few)); break;
            case 31: same("calm(" + many + ")", () -> x.calm(many), () -> o.calm(many)); break;
            case 32: same("more(" + few + ")", () -> x.more(few), () -> o.more(few)); break;
            case 33: same("feast(" + few + ")", () -> x.feast(few), () -> o.feast(few)); break;
            case 34: tellTheft(p, few); break;
            case 35: if (random.nextInt(3) == 0) { same("forget()", x::forget, o::forget); } break;
            case 36: same("stolen(" + few + ")", () -> x.stolen(few), () -> o.stolen(few)); break;
            case 37: same("even(" + many + ")", () -> x.even(many), () -> o.even(many)); break;
            case 38: same("spares(" + p + ", " + few + ")", () -> x.spares(p, few), () -> o.spares(p, few)); break;
            case 39: same("round()", x::round, o::round); break;
            case 40: { int i = upTo(1); same("keep(" + i + ")", () -> bit(x.keep(i)), () -> bit(o.keep(i))); break; }
            case 41: { int i = upTo(1); same("again(" + i + ")", () -> bit(x.again(i)), () -> bit(o.again(i))); break; }
            default: { int i = upTo(8); same("row(" + i + ")", () -> x.row(i), () -> o.row(i)); break; }
        }
    }

    /** Told what would be so, had a chair been stolen, in most cases: else stolen() has nothing to find. */
    private void tellTheft(int p, int n) {
        if (odd() || n < 0 || n > 100 || p < 0 || p >= o.count(0) || o.count(1) == 0) {
            int stood = upTo(100);
            same("told(" + p + ", " + stood + ")", () -> x.told(p, stood), () -> o.told(p, stood));
            return;
        }
        same("forget()", x::forget, o::forget);
        int room = random.nextInt(o.count(1));
        int were = o.chairs(room, 1);
        o.chairs(room, Math.max(0, were - random.nextInt(2)));
        int[] stood = new int[o.count(0)];
        for (int k = 0; k < stood.length; k++) {
            for (int q = 0; q < Math.min(n, 30); q++) {
                stood[k] += o.will(k, Math.min(n, 30)) >> q & 1;
            }
        }
        o.chairs(room, were);
        for (int k = 0; k < stood.length; k++) {
            int who = random.nextInt(stood.length);
            same("told(" + who + ", " + stood[who] + ")", () -> x.told(who, stood[who]), () -> o.told(who, stood[who]));
        }
        int shown = Math.min(n, 30);
        same("stolen(" + shown + ")", () -> x.stolen(shown), () -> o.stolen(shown));
    }

    private void text(int which) {
        switch (random.nextInt(5)) {
            case 0:
                if (random.nextInt(4) == 0) {
                    say(spoiled(town(), 76));
                    same("town()", x::town, o::town);
                }
                break;
            case 1: {
                int p = person();
                say(which == 0 ? spoiled(plan(), 24) : plan());
                same("plan(" + p + ")", () -> x.plan(p), () -> o.plan(p));
                break;
            }
            case 2: {
                int i = upTo(1);
                say(which == 0 ? spoiled(expression(0), 40) : expression(0));
                same("rule(" + i + ")", () -> x.rule(i), () -> o.rule(i));
                break;
            }
            default:
                say(which == 0 ? spoiled(day(), 60) : day());
                same("day()", x::day, o::day);
                break;
        }
    }

    private void sheet() {
        int kind = upTo(3);
        int n = odd() ? wild() : random.nextInt(10);
        int f = odd() ? random.nextInt() : random.nextInt(300) - 100;
        int step = odd() ? random.nextInt() : random.nextInt(60) - 10;
        same("sheet(" + kind + ", " + n + ", " + f + ", " + step + ")", () -> x.sheet(kind, n, f, step), () -> o.sheet(kind, n, f, step));
    }

    private String town() {
        StringBuilder lines = new StringBuilder();
        int many = random.nextInt(13);
        for (int k = 0; k < many; k++) {
            if (random.nextInt(3) == 0) {
                lines.append('r').append(random.nextInt(random.nextInt(4) == 0 ? 9 : 4));
            } else {
                lines.append(random.nextInt(100)).append(random.nextInt(5) == 0 ? "!" : "");
            }
            lines.append(k < many - 1 ? ";" : "");
        }
        return lines.toString();
    }

    /** More people than chairs. */
    private String crowdedTown() {
        StringBuilder lines = new StringBuilder();
        int rooms = 1 + random.nextInt(random.nextBoolean() ? 2 : 4);
        int people = 2 + random.nextInt(7);
        for (int k = 0; k < rooms; k++) {
            lines.append('r').append(random.nextInt(10) == 0 ? 0 : 1 + random.nextInt(2)).append(';');
        }
        for (int k = 0; k < people; k++) {
            lines.append(k == 0 ? "" : ";").append(random.nextInt(100)).append(random.nextInt(7) == 0 ? "!" : "");
        }
        return lines.toString();
    }

    private String plan() {
        StringBuilder signs = new StringBuilder();
        int many = random.nextInt(5) == 0 ? random.nextInt(25) : random.nextInt(10) == 0 ? 0 : 1 + random.nextInt(4);
        int rooms = random.nextBoolean() ? Math.min(1, o.count(1)) : o.count(1);
        for (int k = 0; k < many; k++) {
            signs.append(rooms == 0 || random.nextInt(7) == 0 ? "-" : "" + random.nextInt(rooms));
        }
        return signs.toString();
    }

    private String day() {
        StringBuilder acts = new StringBuilder();
        int many = random.nextInt(9);
        for (int k = 0; k < many; k++) {
            int person = random.nextInt(20) == 0 ? random.nextInt(10) : random.nextInt(Math.max(1, o.count(0)));
            int other = random.nextInt(20) == 0 ? random.nextInt(10) : random.nextInt(Math.max(1, o.count(0)));
            switch (random.nextInt(9)) {
                case 0: acts.append('c').append(random.nextInt(Math.max(1, o.count(1)))).append('=').append(random.nextInt(4)); break;
                case 1: acts.append('s').append(person); break;
                case 2: case 3: acts.append('w').append(person); break;
                case 4: acts.append('l').append(person).append('>').append(other).append('*').append(random.nextInt(100)); break;
                default: acts.append('q').append(random.nextInt(random.nextInt(5) == 0 ? 100 : 4)); break;
            }
            acts.append(k < many - 1 ? ";" : "");
        }
        return acts.toString();
    }

    private String expression(int depth) {
        String sums = sums(depth);
        return random.nextInt(4) == 0 ? sums + "<>=".charAt(random.nextInt(3)) + sums(depth) : sums;
    }

    private String sums(int depth) {
        StringBuilder all = new StringBuilder(product(depth));
        while (random.nextInt(3) == 0) {
            all.append("+-".charAt(random.nextInt(2))).append(product(depth));
        }
        return all.toString();
    }

    private String product(int depth) {
        StringBuilder all = new StringBuilder(thing(depth));
        while (random.nextInt(3) == 0) {
            all.append("*/".charAt(random.nextInt(2))).append(thing(depth));
        }
        return all.toString();
    }

    private String thing(int depth) {
        switch (random.nextInt(depth < 5 ? 8 : 6)) {
            case 0: return "-" + thing(depth);
            case 1: return "" + random.nextInt(random.nextBoolean() ? 10 : 1000);
            case 6: case 7: return depth > 2 && random.nextInt(3) > 0 ? "t" : "(" + expression(depth + 1) + ")";
            default: return "" + "igkstabc".charAt(random.nextInt(8));
        }
    }

    /** As it is, or cut, or with a sign more, less or changed, or with more behind it than may be. */
    private String spoiled(String text, int limit) {
        String signs = "r!;0123456789-igkstabc()<>=+*/qcwl>=*x\u00e9 ";
        char sign = signs.charAt(random.nextInt(signs.length()));
        int at = random.nextInt(text.length() + 1);
        StringBuilder all = new StringBuilder(text);
        switch (random.nextInt(6)) {
            case 0: all.setLength(at); break;
            case 1: all.insert(at, sign); break;
            case 2: if (at < text.length()) { all.setCharAt(at, sign); } break;
            case 3: if (at < text.length()) { all.deleteCharAt(at); } break;
            case 4: all.append(random.nextBoolean() ? ";" : "+").append(text).append(random.nextBoolean() ? ";" : "+").append(text); break;
            default: break;
        }
        all.setLength(Math.min(all.length(), random.nextInt(3) == 0 ? Math.min(80, limit) : 80));
        return all.toString();
    }
}
