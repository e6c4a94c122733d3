import java.util.NoSuchElementException;
import java.util.function.Supplier;
import java.util.function.ToIntFunction;

/**
 * Term 2, of all calls: what a refused call changes (nothing), what becomes of THE TEXT and of the ROW, what is asked first,
 * and that the calls of which the interface says so change nothing. Each call is made on an object of its own.
 */
public final class RefusedTest {
    private static final Judge judge = new Judge();
    private static final int THROWS = -777777;
    private static final int LEAST = Integer.MIN_VALUE;
    private static final int MOST = Integer.MAX_VALUE;

    public static void main(String[] args) {
        refusedTown();
        refusedQuarters();
        refusedWhere();
        refusedChairs();
        refusedKept();
        wrongTexts();
        noAnswers();
        noneFirst();
        nothingChanges();
        eachByItself();
        textStays();
        judge.finish("RefusedTest");
    }

    /** Two rooms, three people, three quarters, one thing told, one state kept, a text of two signs, a ROW of two numbers. */
    private static OneChairShort busy() {
        OneChairShort x = Told.fresh("r1;r2;20;40!;60", "0", "01", "0-1");
        x.keep(0);
        x.quarters(2);
        x.quarters(1);
        x.told(0, 2);
        Told.text(x, "q1");
        return x;
    }

    private static int bit(boolean is) {
        return is ? 1 : 0;
    }

    private static int answer(ToIntFunction<OneChairShort> call, OneChairShort x) {
        try {
            return call.applyAsInt(x);
        } catch (NoSuchElementException e) {
            return THROWS;
        }
    }

    private static void refused(String call, ToIntFunction<OneChairShort> run, int due) {
        OneChairShort x = busy();
        String was = Seen.all(x);
        judge.due(call, answer(run, x), due);
        judge.same(call, Seen.all(x), was);
    }

    private static void refusedTown() {
        judge.sentence("Refused calls answer NONE, or false, and change nothing");
        refused("end(-1)", x -> bit(x.end(-1)), 0);
        refused("end(3) of two", x -> bit(x.end(3)), 0);
        refused("end(LEAST)", x -> bit(x.end(LEAST)), 0);
        refused("of(3, 0)", x -> x.of(3, 0), THROWS);
        refused("of(-1, 0)", x -> x.of(-1, 0), THROWS);
        refused("of(0, 11)", x -> x.of(0, 11), THROWS);
        refused("of(0, -1)", x -> x.of(0, -1), THROWS);
        refused("chairs(2, 1)", x -> x.chairs(2, 1), -1);
        refused("chairs(-1, 1)", x -> x.chairs(-1, 1), -1);
        refused("chairs(0, 9)", x -> x.chairs(0, 9), -1);
        refused("chairs(0, -1)", x -> x.chairs(0, -1), -1);
        refused("chairs(1, LEAST)", x -> x.chairs(1, LEAST), -1);
        refused("sick(3, true)", x -> bit(x.sick(3, true)), 0);
        refused("sick(-1, true)", x -> bit(x.sick(-1, true)), 0);
        refused("sheet(4, 2, 5, 5)", x -> x.sheet(4, 2, 5, 5), -1);
        refused("sheet(-1, 2, 5, 5)", x -> x.sheet(-1, 2, 5, 5), -1);
        refused("sheet(2, 9, 5, 5)", x -> x.sheet(2, 9, 5, 5), -1);
        refused("sheet(3, 9, 5, 5)", x -> x.sheet(3, 9, 5, 5), -1);
        refused("sheet(0, -1, 5, 5): -2, nothing changes", x -> x.sheet(0, -1, 5, 5), -2);
        refused("sheet(1, LEAST, 5, 5): -2, nothing changes", x -> x.sheet(1, LEAST, 5, 5), -2);
        refused("sheet(2, -1, 5, 5): -2, nothing changes", x -> x.sheet(2, -1, 5, 5), -2);
        OneChairShort full = Told.text(busy(), "r1;99;88");
        for (int k = 3; k <= 19; k++) {
            full.sign(0);
        }
        String was = Seen.all(full);
        judge.due("sign: 76 and 4 are there, 80 is all", full.count(8), 76);
        judge.due("sign: the 77th to 80th", full.sign(0), 80);
        judge.due("sign: more than 80", full.sign(0x31323334), -1);
        full.end(76);
        judge.same("sign: refused", Seen.all(full), was);
    }

    private static void refusedQuarters() {
        refused("quarters(-1)", x -> x.quarters(-1), -1);
        refused("quarters(201)", x -> x.quarters(201), -1);
        refused("quarters(LEAST)", x -> x.quarters(LEAST), -1);
        refused("quarters(MOST)", x -> x.quarters(MOST), -1);
        refused("in(2)", x -> x.in(2), -1);
        refused("in(-1)", x -> x.in(-1), -1);
        refused("asks(2)", x -> x.asks(2), -1);
        refused("asks(-1)", x -> x.asks(-1), -1);
        refused("queue(2)", x -> x.queue(2), -1);
        refused("queue(-1)", x -> x.queue(-1), -1);
        refused("will(0, 31)", x -> x.will(0, 31), THROWS);
        refused("will(0, -1)", x -> x.will(0, -1), THROWS);
        refused("will(3, 1)", x -> x.will(3, 1), THROWS);
        refused("will(-1, 1)", x -> x.will(-1, 1), THROWS);
        refused("longest(0, 201)", x -> x.longest(0, 201), -1);
        refused("longest(0, -1)", x -> x.longest(0, -1), -1);
        refused("longest(3, 1)", x -> x.longest(3, 1), -1);
        refused("longest(-1, 1)", x -> x.longest(-1, 1), -1);
        refused("gave(0, 0)", x -> x.gave(0, 0), -1);
        refused("gave(0, 3)", x -> x.gave(0, 3), -1);
        refused("gave(3, 0)", x -> x.gave(3, 0), -1);
        refused("gave(-1, 0)", x -> x.gave(-1, 0), -1);
        refused("lend(0, 1, 0)", x -> bit(x.lend(0, 1, 0)), 0);
        refused("lend(0, 1, 1000)", x -> bit(x.lend(0, 1, 1000)), 0);
        refused("lend(0, 1, -1)", x -> bit(x.lend(0, 1, -1)), 0);
        refused("lend(1, 1, 5)", x -> bit(x.lend(1, 1, 5)), 0);
        refused("lend(3, 1, 5)", x -> bit(x.lend(3, 1, 5)), 0);
        refused("lend(1, 3, 5)", x -> bit(x.lend(1, 3, 5)), 0);
        refused("lend(-1, 1, 5)", x -> bit(x.lend(-1, 1, 5)), 0);
        refused("lend(1, -1, 5)", x -> bit(x.lend(1, -1, 5)), 0);
        OneChairShort x = busy();
        x.undo();
        x.undo();
        String was = Seen.all(x);
        judge.due("undo: none is left", x.undo(), -1);
        judge.same("undo: none is left", Seen.all(x), was);
    }

    private static void refusedWhere() {
        refused("least(3, 1)", x -> x.least(3, 1), -1);
        refused("least(-1, 1)", x -> x.least(-1, 1), -1);
        refused("least(0, 6)", x -> x.least(0, 6), -1);
        refused("least(0, -1)", x -> x.least(0, -1), -1);
        refused("together(0, 0, 1)", x -> x.together(0, 0, 1), -1);
        refused("together(0, 3, 1)", x -> x.together(0, 3, 1), -1);
        refused("together(3, 0, 1)", x -> x.together(3, 0, 1), -1);
        refused("together(0, -1, 1)", x -> x.together(0, -1, 1), -1);
        refused("together(0, 1, 4)", x -> x.together(0, 1, 4), -1);
        refused("together(0, 1, -1)", x -> x.together(0, 1, -1), -1);
        refused("both(1, 1)", x -> x.both(1, 1), -1);
        refused("both(1, 3)", x -> x.both(1, 3), -1);
        refused("both(3, 1)", x -> x.both(3, 1), -1);
        refused("both(-1, 1)", x -> x.both(-1, 1), -1);
        refused("often(1, 1, 5)", x -> x.often(1, 1, 5), -1);
        refused("often(1, 3, 5)", x -> x.often(1, 3, 5), -1);
        refused("often(3, 1, 5)", x -> x.often(3, 1, 5), -1);
        refused("often(0, 1, 201)", x -> x.often(0, 1, 201), -1);
        refused("often(0, 1, -1)", x -> x.often(0, 1, -1), -1);
        refused("swap(1, 1)", x -> bit(x.swap(1, 1)), 0);
        refused("swap(0, 3)", x -> bit(x.swap(0, 3)), 0);
        refused("swap(3, 0)", x -> bit(x.swap(3, 0)), 0);
        refused("swap(-1, 0)", x -> bit(x.swap(-1, 0)), 0);
        refused("exchange(-1)", x -> x.exchange(-1), -1);
        refused("exchange(101)", x -> x.exchange(101), -1);
        refused("delay(0, 101)", x -> x.delay(0, 101), -1);
        refused("delay(0, -1)", x -> x.delay(0, -1), -1);
        refused("delay(3, 1)", x -> x.delay(3, 1), -1);
        refused("delay(-1, 1)", x -> x.delay(-1, 1), -1);
        refused("crowd(0)", x -> x.crowd(0), -1);
        refused("crowd(101)", x -> x.crowd(101), -1);
        refused("calm(-1)", x -> x.calm(-1), -1);
        refused("calm(201)", x -> x.calm(201), -1);
    }

    private static void refusedChairs() {
        refused("more(-1)", x -> x.more(-1), -1);
        refused("more(101)", x -> x.more(101), -1);
        refused("feast(-1)", x -> x.feast(-1), -1);
        refused("feast(101)", x -> x.feast(101), -1);
        refused("told(3, 0)", x -> x.told(3, 0), -1);
        refused("told(-1, 0)", x -> x.told(-1, 0), -1);
        refused("told(0, 101)", x -> x.told(0, 101), -1);
        refused("told(0, -1)", x -> x.told(0, -1), -1);
        refused("stolen(-1)", x -> x.stolen(-1), -1);
        refused("stolen(101)", x -> x.stolen(101), -1);
        refused("even(-1)", x -> x.even(-1), -1);
        refused("even(201)", x -> x.even(201), -1);
        refused("spares(3, 1)", x -> x.spares(3, 1), THROWS);
        refused("spares(-1, 1)", x -> x.spares(-1, 1), THROWS);
        refused("spares(0, 101)", x -> x.spares(0, 101), THROWS);
        refused("spares(0, -1)", x -> x.spares(0, -1), THROWS);
    }

    private static void refusedKept() {
        refused("keep(2)", x -> bit(x.keep(2)), 0);
        refused("keep(-1)", x -> bit(x.keep(-1)), 0);
        refused("again(2)", x -> bit(x.again(2)), 0);
        refused("again(-1)", x -> bit(x.again(-1)), 0);
        refused("again(1): nothing is kept there", x -> bit(x.again(1)), 0);
        refused("count(10)", x -> x.count(10), -1);
        refused("count(-1)", x -> x.count(-1), -1);
        refused("row(2) of two", x -> x.row(2), THROWS);
        refused("row(-1)", x -> x.row(-1), THROWS);
        OneChairShort x = busy();
        Told.town(x, "7");
        String was = Seen.all(x);
        judge.due("again(0): one came since", x.again(0), false);
        judge.same("again(0): one came since", Seen.all(x), was);
        x.keep(1);
        x.quarters(1);
        judge.due("keep(2): what was kept stays", x.keep(2), false);
        judge.due("again(1) behind keep(2)", x.again(1), true);
        judge.due("again(1) behind keep(2): NOW", x.count(2), 3);
    }

    private static void wrong(String text, String call, ToIntFunction<OneChairShort> run, int due) {
        OneChairShort x = busy();
        String was = Seen.butTextAndRow(x);
        Told.text(x, text);
        judge.due(call + " of " + text, run.applyAsInt(x), due);
        judge.same(call + " of " + text, Seen.butTextAndRow(x), was);
        judge.due(call + " of " + text + ": THE TEXT is empty", x.count(8), 0);
        judge.row(call + " of " + text + ": the ROW stays", x, 1, 1);
    }

    private static void wrongTexts() {
        judge.sentence("change nothing but THE TEXT, which a call that can read it empties, whatever it answers");
        wrong("r5;7;x", "town()", x -> x.town(), -6);
        wrong("7;r0;", "town()", x -> x.town(), -6);
        wrong("0123", "plan(0)", x -> x.plan(0), -3);
        wrong("0", "plan(3)", x -> x.plan(3), -100);
        wrong("0", "plan(-1)", x -> x.plan(-1), -100);
        wrong("0", "plan(LEAST)", x -> x.plan(LEAST), -100);
        wrong("i+", "rule(0)", x -> x.rule(0), -3);
        wrong("(i", "rule(1)", x -> x.rule(1), -3);
        wrong("i", "rule(2)", x -> x.rule(2), -100);
        wrong("i", "rule(-1)", x -> x.rule(-1), -100);
        wrong("i", "rule(MOST)", x -> x.rule(MOST), -100);
        wrong("q5;s0;c0=0;x", "day()", x -> x.day(), -12);
        wrong("", "plan(3)", x -> x.plan(3), -100);
        wrong("", "rule(2)", x -> x.rule(2), -100);
        OneChairShort x = busy();
        Told.day(x, "c0=1");
        judge.due("day(), done: THE TEXT is empty", x.count(8), 0);
        Told.text(x, "c9=1");
        x.day();
        judge.due("day(), an act refused: THE TEXT is empty", x.count(8), 0);
        Told.plan(x, 0, "0-");
        judge.due("plan(), read: THE TEXT is empty", x.count(8), 0);
        Told.rule(x, 0, "g");
        judge.due("rule(), read: THE TEXT is empty", x.count(8), 0);
        Told.town(x, "9");
        judge.due("town(), read: THE TEXT is empty", x.count(8), 0);
    }

    private static void stays(String call, Supplier<OneChairShort> make, ToIntFunction<OneChairShort> run, int due) {
        OneChairShort x = make.get();
        x.quarters(0);
        String was = Seen.all(x);
        judge.due(call, run.applyAsInt(x), due);
        judge.same(call, Seen.all(x), was);
        judge.due(call + ": there was a ROW", x.count(7), 2);
    }

    private static void noAnswers() {
        judge.sentence("The ROW stays with NONE and with each number below 0 that tells why there is no answer (-2, -3 ..)");
        Supplier<OneChairShort> roomless = () -> Told.fresh("5;6!;7", "-", "--");
        Supplier<OneChairShort> alone = () -> Told.fresh("r1;5", "0");
        Supplier<OneChairShort> nobody = () -> Told.fresh("r1");
        stays("asks(0): -2", alone, x -> x.asks(0), -2);
        stays("least(0, 5): -2", roomless, x -> x.least(0, 5), -2);
        stays("least(0, 0): -2", roomless, x -> x.least(0, 0), -2);
        stays("together(0, 1, 3): -2", roomless, x -> x.together(0, 1, 3), -2);
        stays("together(0, 1, 0): -2", roomless, x -> x.together(0, 1, 0), -2);
        stays("both(0, 1): -2", roomless, x -> x.both(0, 1), -2);
        stays("exchange(5): one alone", alone, x -> x.exchange(5), -2);
        stays("exchange(5): nobody", nobody, x -> x.exchange(5), -2);
        stays("delay(2, 5): no plan", roomless, x -> x.delay(2, 5), -2);
        stays("crowd(1): no rooms", roomless, x -> x.crowd(1), -2);
        stays("more(0): no rooms", roomless, x -> x.more(0), -2);
        stays("feast(0): no rooms", roomless, x -> x.feast(0), -2);
        stays("feast(5): one room", alone, x -> x.feast(5), -2);
        stays("even(0): nobody", nobody, x -> x.even(0), -2);
        stays("round(): s grows", alone, x -> x.round(), -2);
        stays("sheet(0, -1, 1, 1)", roomless, x -> x.sheet(0, -1, 1, 1), -2);
        OneChairShort x = busy();
        judge.due("sheet(3, 3, 1, 1)", x.sheet(3, 3, 1, 1), -3);
        judge.row("sheet: -3", x, 1, 1);
    }

    private static void noneFirst() {
        judge.sentence("NONE is asked ahead of other answers below 0");
        OneChairShort x = Told.fresh("5;6");
        judge.due("least(2, 1)", x.least(2, 1), -1);
        judge.due("least(0, 6)", x.least(0, 6), -1);
        judge.due("together(0, 0, 1)", x.together(0, 0, 1), -1);
        judge.due("together(0, 1, 4)", x.together(0, 1, 4), -1);
        judge.due("asks(0)", x.asks(0), -1);
        judge.due("delay(0, 101): it has no plan", x.delay(0, 101), -1);
        judge.due("delay(2, 5)", x.delay(2, 5), -1);
        judge.due("crowd(0): no rooms", x.crowd(0), -1);
        judge.due("crowd(101): no rooms", x.crowd(101), -1);
        judge.due("more(-1): no rooms", x.more(-1), -1);
        judge.due("more(101): no rooms", x.more(101), -1);
        judge.due("feast(-1): no rooms", x.feast(-1), -1);
        judge.due("feast(101): no rooms", x.feast(101), -1);
        judge.due("sheet(4, -1, 1, 1): another kind", x.sheet(4, -1, 1, 1), -1);
        judge.due("sheet(-1, -1, 1, 1): another kind", x.sheet(-1, -1, 1, 1), -1);
        judge.due("sheet(3, 9, 1, 1): missing, too", x.sheet(3, 9, 1, 1), -1);
        OneChairShort none = new OneChairShort();
        judge.due("exchange(-1): nobody", none.exchange(-1), -1);
        judge.due("exchange(101): nobody", none.exchange(101), -1);
        judge.due("even(-1): nobody", none.even(-1), -1);
        judge.due("even(201): nobody", none.even(201), -1);
        judge.due("least(0, 5): nobody and no rooms", none.least(0, 5), -1);
        judge.due("together(0, 1, 3): nobody and no rooms", none.together(0, 1, 3), -1);
        judge.due("both(0, 1): nobody", none.both(0, 1), -1);
        judge.due("delay(0, 5): nobody", none.delay(0, 5), -1);
    }

    private static void still(String call, ToIntFunction<OneChairShort> run) {
        OneChairShort x = busy();
        String was = Seen.butTheRow(x);
        run.applyAsInt(x);
        judge.same(call, Seen.butTheRow(x), was);
        x.undo();
        judge.due(call + ": undo() as if it had not been", x.count(2), 2);
    }

    private static void nothingChanges() {
        judge.sentence("(nothing changes)");
        still("least", x -> x.least(0, 5));
        still("together", x -> x.together(0, 2, 3));
        still("both", x -> x.both(0, 2));
        still("often", x -> x.often(0, 2, 200));
        still("exchange", x -> x.exchange(100));
        still("delay", x -> x.delay(2, 100));
        still("crowd", x -> x.crowd(100));
        still("calm", x -> x.calm(200));
        still("more", x -> x.more(100));
        still("feast", x -> x.feast(100));
        still("stolen", x -> x.stolen(100));
        still("even", x -> x.even(200));
        still("spares", x -> x.spares(0, 100));
        still("round", x -> x.round());
        judge.sentence("Nothing changes.");
        still("asks", x -> x.asks(0));
        still("fewest", x -> x.fewest());
        still("will", x -> x.will(0, 30));
        still("longest", x -> x.longest(0, 200));
        still("in", x -> x.in(0));
        still("queue", x -> x.queue(0));
        still("pair", x -> x.pair());
        still("gave", x -> x.gave(0, 1));
        still("count", x -> x.count(3));
        still("row", x -> x.row(1));
        still("keep", x -> bit(x.keep(1)));
    }

    private static String[] looks(OneChairShort x, boolean backwards) {
        String[] told = new String[13];
        for (int k = 0; k < told.length; k++) {
            int which = backwards ? told.length - 1 - k : k;
            StringBuilder all = new StringBuilder().append(look(x, which));
            for (int i = 0; i < x.count(7); i++) {
                all.append(' ').append(x.row(i));
            }
            told[which] = all.toString();
        }
        return told;
    }

    private static int look(OneChairShort x, int which) {
        x.in(0);
        switch (which) {
            case 0: return x.delay(0, 3);
            case 1: return x.more(3);
            case 2: return x.feast(3);
            case 3: return x.stolen(3);
            case 4: return x.even(3);
            case 5: return x.spares(1, 3);
            case 6: return x.least(1, 3);
            case 7: return x.together(0, 1, 2);
            case 8: return x.exchange(3);
            case 9: return x.delay(1, 3);
            case 10: return x.round();
            case 11: return x.asks(0);
            default: return x.will(2, 9);
        }
    }

    /** What a call tried out (other PLANS, other CHAIRS, another RULE 0) is not there any more for the next call. */
    private static void eachByItself() {
        judge.sentence("(nothing changes)");
        OneChairShort x = Told.fresh("r1;r2;r1;20;40!;60;80", "001-", "01", "2-0", "1120-");
        Told.rule(x, 0, "t+g/40");
        x.quarters(3);
        x.told(0, 1);
        String[] there = looks(x, false);
        String[] andBack = looks(x, true);
        for (int which = 0; which < there.length; which++) {
            judge.same("look " + which + " behind others", andBack[which], there[which]);
            OneChairShort fresh = Told.fresh("r1;r2;r1;20;40!;60;80", "001-", "01", "2-0", "1120-");
            Told.rule(fresh, 0, "t+g/40");
            fresh.quarters(3);
            fresh.told(0, 1);
            StringBuilder alone = new StringBuilder().append(look(fresh, which));
            for (int i = 0; i < fresh.count(7); i++) {
                alone.append(' ').append(fresh.row(i));
            }
            judge.same("look " + which + " alone", alone.toString(), there[which]);
        }
    }

    private static void textStays() {
        judge.sentence("THE TEXT, which a call that can read it empties");
        OneChairShort x = busy();
        x.chairs(0, 2);
        x.sick(0, true);
        x.sheet(2, 3, 1, 1);
        x.quarters(2);
        x.undo();
        x.lend(0, 1, 5);
        x.settle();
        x.swap(0, 1);
        x.told(0, 1);
        x.forget();
        x.keep(0);
        x.again(0);
        x.in(0);
        x.pair();
        x.least(0, 1);
        judge.due("calls that can't read it leave it", x.count(8), 2);
        judge.due("it is q1 still", x.day(), 1);
        judge.row("it is q1 still", x, 1, 0, 0);
    }
}
