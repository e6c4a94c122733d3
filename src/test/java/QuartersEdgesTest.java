/** Promises 11 to 18: each sentence that names a boundary case. */
public final class QuartersEdgesTest {
    private static final Judge judge = new Judge();
    private static final int LEAST = Integer.MIN_VALUE;
    private static final int MOST = Integer.MAX_VALUE;

    public static void main(String[] args) {
        promise11();
        promise12();
        promise12Ten();
        promise12Forgotten();
        promise13();
        promise14();
        promise15();
        promise16();
        promise16Positions();
        promise16Refused();
        promise16Undone();
        promise17();
        promise18();
        judge.finish("QuartersEdgesTest");
    }

    /** One chair for three: 0, 1, 2, 0, 1 .. sit, a quarter each. */
    private static OneChairShort three() {
        return Told.fresh("r1;10;20;30", "0", "0", "0");
    }

    private static void promise11() {
        judge.sentence("Promise 11: n QUARTERS (0 .. 200) go by: how often somebody asked");
        OneChairShort x = three();
        judge.due("0", x.quarters(0), 0);
        judge.due("0: NOW", x.count(2), 0);
        judge.row("0", x, 0, 0);
        judge.due("1", x.quarters(1), 0);
        judge.row("1", x, 2, 2);
        judge.due("200", x.quarters(200), 200);
        judge.due("200: NOW", x.count(2), 201);
        judge.row("200", x, 2, 400);
        judge.due("0 then", x.quarters(0), 0);
        judge.sentence("Promise 11: how many STAND then, how many QUARTERS were STOOD in them by all together");
        judge.row("0 then: who STAND, nothing was STOOD in them", x, 2, 0);
        OneChairShort goes = Told.fresh("r0;10;20", "00-", "0-0");
        goes.quarters(3);
        judge.row("two, one, one", goes, 1, 4);
        goes.quarters(2);
        judge.row("those ahead do not count", goes, 1, 3);
        judge.sentence("Promise 11: NONE: another n");
        int[] wrong = {-1, 201, LEAST, MOST};
        for (int n : wrong) {
            judge.due("quarters(" + n + ")", goes.quarters(n), -1);
        }
        judge.due("NOW", goes.count(2), 5);
        judge.row("the ROW stays", goes, 1, 3);
    }

    private static void promise12() {
        judge.sentence("Promise 12: is undone (where all are, s, t, a, b, CREDITS, who gave to whom, NOW are as ahead of it)");
        OneChairShort x = Told.fresh("r1;r1;10;20;30", "0", "0", "01");
        x.quarters(3);
        String was = Seen.butTheRow(x);
        x.quarters(7);
        judge.due("one is left", x.undo(), 1);
        judge.same("undo()", Seen.butTheRow(x), was);
        judge.due("the ROW stays", x.count(7), 2);
        judge.due("none is left", x.undo(), 0);
        judge.due("NOW", x.count(2), 0);
        judge.due("nowhere", x.of(0, 2) + x.of(1, 2) + x.of(2, 2), -3);
        judge.due("gave", x.gave(0, 1) + x.gave(1, 0) + x.gave(2, 0) + x.gave(2, 1), 0);
        judge.sentence("Promise 12: Refused: none.");
        judge.due("undo()", x.undo(), -1);
        judge.due("undo() of a new one", new OneChairShort().undo(), -1);
        // And nothing else:
        OneChairShort y = three();
        y.quarters(2);
        y.chairs(0, 2);
        y.sick(1, true);
        y.sheet(2, 3, 40, 1);
        Told.plan(y, 2, "-");
        Told.rule(y, 0, "g");
        y.told(0, 1);
        y.undo();
        judge.due("CHAIRS stay", y.count(9), 2);
        judge.due("SICK stays", y.of(1, 1), 1);
        judge.due("AGES stay", y.of(2, 0), 42);
        judge.due("RULES stay", y.of(2, 9), 42);
        judge.due("what was told stays", y.count(6), 1);
        y.quarters(1);
        judge.due("PLANS stay", y.of(2, 2), -1);
    }

    private static void promise12Ten() {
        judge.sentence("Promise 12: of 10 that are kept, the latest ones; such as were of 1 and more");
        OneChairShort x = three();
        for (int k = 1; k <= 10; k++) {
            x.quarters(k);
            judge.due("behind the quarters() number " + k, x.count(5), k);
        }
        x.quarters(0);
        judge.due("quarters(0) is none", x.count(5), 10);
        x.quarters(100);
        judge.due("the eleventh: ten are kept", x.count(5), 10);
        x.quarters(50);
        judge.due("the twelfth", x.count(5), 10);
        judge.due("NOW", x.count(2), 205);
        int[] now = {155, 55, 45, 36, 28, 21, 15, 10, 6, 3};
        for (int k = 0; k < 10; k++) {
            judge.due("undo() number " + (k + 1), x.undo(), 9 - k);
            judge.due("NOW behind it", x.count(2), now[k]);
        }
        judge.due("the first two are not kept", x.undo(), -1);
        judge.due("NOW stays", x.count(2), 3);
        for (int k = 0; k < 13; k++) {
            x.quarters(1);
            x.quarters(2);
            judge.due("two more, one undone", x.undo(), Math.min(9, k + 1));
        }
        judge.due("NOW", x.count(2), 16);
    }

    private static int left(String what) {
        OneChairShort x = three();
        x.quarters(1);
        x.quarters(2);
        switch (what) {
            case "an empty town()": x.town(); break;
            case "a wrong town()": Told.town(x, "7;x"); break;
            case "a town() for which there is no room": Told.town(x, "r1;r1;r1;r1"); break;
            case "town()": Told.town(x, "7"); break;
            case "town() of a room": Told.town(x, "r0"); break;
            case "lend()": x.lend(0, 1, 1); break;
            case "a refused lend()": x.lend(0, 1, 0); break;
            case "settle()": x.settle(); break;
            case "settle() twice": x.settle(); x.quarters(1); x.undo(); x.quarters(1); x.settle(); break;
            case "again()": x.keep(0); x.again(0); break;
            case "a refused again()": x.again(0); break;
            case "again(1), a refused one": x.keep(0); x.again(1); break;
            case "keep()": x.keep(0); break;
            case "fewest()": x.fewest(); break;
            case "an empty day()": x.day(); break;
            case "a day() of l": Told.day(x, "l0>1*1"); break;
            case "a day() of a refused l": Told.day(x, "l0>0*1"); break;
            case "a wrong day()": Told.day(x, "l0>1*1;x"); break;
            case "a day() of q0": Told.day(x, "q0"); break;
            case "a day() of c, s, w": Told.day(x, "c0=2;s0;w0"); break;
            default: x.quarters(201); break;
        }
        return x.count(5);
    }

    private static void promise12Forgotten() {
        judge.sentence("Promise 12: (town(), lend(), settle() and again() forget them, if they are not refused; an empty town() does not.)");
        String[] forget = {"town()", "town() of a room", "lend()", "settle()", "settle() twice", "again()", "a day() of l"};
        for (String what : forget) {
            judge.due(what, left(what), 0);
        }
        String[] keep = {"an empty town()", "a wrong town()", "a town() for which there is no room", "a refused lend()", "a refused again()",
            "again(1), a refused one", "keep()", "fewest()", "an empty day()", "a day() of a refused l", "a wrong day()", "a day() of q0",
            "a day() of c, s, w", "a refused quarters()"};
        for (String what : keep) {
            judge.due(what, left(what), 2);
        }
        OneChairShort nothing = Told.fresh("r1;10;20", "0", "-");
        nothing.quarters(4);
        judge.due("settle() of nothing", nothing.settle(), 0);
        judge.due("settle() of nothing forgets them", nothing.undo(), -1);
    }

    private static void promise13() {
        judge.sentence("Promise 13: PEOPLE (bits) in a ROOM; the ROW: those of them that sit (bits). NONE: none such.");
        OneChairShort x = Told.fresh("r0;r1;r3;r8;1;2;3;4;5;6;7;8", "0", "1", "1", "2", "2", "2", "2", "3");
        for (int room = 0; room < 4; room++) {
            judge.due("ahead of all QUARTERS: in(" + room + ")", x.in(room), 0);
            judge.row("ahead of all QUARTERS: in(" + room + ")", x, 0);
        }
        x.quarters(1);
        int[] there = {1, 6, 120, 128};
        int[] sit = {0, 2, 56, 128};
        for (int room = 0; room < 4; room++) {
            judge.due("in(" + room + ")", x.in(room), there[room]);
            judge.row("in(" + room + ")", x, sit[room]);
        }
        int[] none = {4, -1, LEAST, MOST};
        for (int room : none) {
            judge.due("in(" + room + ")", x.in(room), -1);
        }
        judge.row("the ROW stays", x, 128);
    }

    private static void promise14() {
        judge.sentence("Promise 14: -2: nobody would; NONE: none such. Nothing changes.");
        OneChairShort x = three();
        judge.due("ahead of all QUARTERS", x.asks(0), -2);
        judge.due("asks(1)", x.asks(1), -1);
        judge.due("asks(-1)", x.asks(-1), -1);
        judge.due("asks(LEAST)", x.asks(LEAST), -1);
        judge.due("asks(MOST)", x.asks(MOST), -1);
        judge.row("no ROW as yet", x);
        x.quarters(1);
        judge.due("1 would", x.asks(0), 1);
        judge.row("0 gives", x, 0);
        judge.due("again, as nothing changed", x.asks(0), 1);
        judge.due("and so it is", x.quarters(1), 1);
        judge.due("1 asked 0", x.gave(0, 1), 1);
        x.chairs(0, 3);
        judge.due("in the next QUARTER all sit", x.asks(0), -2);
        x.chairs(0, 0);
        judge.due("in the next QUARTER nobody sits", x.asks(0), -2);
        x.chairs(0, 1);
        x.sick(1, true);
        judge.due("who sits is SICK", x.asks(0), -2);
        judge.row("the ROW stays", x, 2, 2);
        judge.sentence("Promise 14: in the next QUARTER");
        OneChairShort comes = Told.fresh("r0;r1;10;20", "01", "1");
        comes.quarters(1);
        judge.due("0 will be in ROOM 1 by then", comes.asks(1), 0);
        judge.row("1 gives", comes, 1);
        judge.due("0 will not be in ROOM 0", comes.asks(0), -2);
    }

    private static void promise15() {
        judge.sentence("Promise 15: each time the greatest first, of equal ones the first");
        OneChairShort x = Told.fresh("r2;r1;10;20!;30;40;50", "0", "0", "0", "0", "-");
        x.quarters(1);
        judge.due("all equal", x.queue(0), 4);
        judge.row("all equal: those that STAND, then those that sit", x, 2, 3, 0, 1);
        Told.rule(x, 0, "0-i");
        Told.rule(x, 1, "i");
        x.queue(0);
        judge.row("SICK ones too", x, 2, 3, 1, 0);
        Told.rule(x, 0, "512*512*512*16*(i=2)+1");
        x.queue(0);
        judge.row("the least int behind 1", x, 3, 2, 1, 0);
        judge.due("nobody in ROOM 1", x.queue(1), 0);
        judge.row("an empty ROW", x);
        judge.sentence("Promise 15: How many; NONE: none such.");
        x.queue(0);
        int[] none = {2, -1, LEAST, MOST};
        for (int room : none) {
            judge.due("queue(" + room + ")", x.queue(room), -1);
        }
        judge.due("the ROW stays", x.count(7), 4);
        OneChairShort all = Told.fresh("r8;1;2;3;4;5;6;7;8", "0", "0", "0", "0", "0", "0", "0", "0");
        Told.rule(all, 1, "g/3");
        all.quarters(1);
        judge.due("eight that sit", all.queue(0), 8);
        judge.row("eight that sit", all, 5, 6, 7, 2, 3, 4, 0, 1);
        all.chairs(0, 0);
        Told.rule(all, 0, "g/4");
        all.quarters(1);
        judge.due("eight that STAND", all.queue(0), 8);
        judge.row("eight that STAND", all, 7, 3, 4, 5, 6, 0, 1, 2);
    }

    private static void promise16() {
        judge.sentence("Promise 16: THE TEXT is a DAY (an empty one: none)");
        OneChairShort x = three();
        x.quarters(2);
        judge.due("none", x.day(), 0);
        judge.row("none", x, 0, 0, 0);
        judge.sentence("Promise 16: q and a number (1 or 2 digits)");
        judge.due("q0;q00;q1;q01;q99", Told.day(x, "q0;q00;q1;q01;q99"), 5);
        judge.row("q0;q00;q1;q01;q99", x, 101, 101, 0);
        judge.due("NOW", x.count(2), 103);
        judge.sentence("Promise 16: c, a digit (a ROOM), =, a digit 0 .. 8: chairs()");
        judge.due("c0=0;c0=8", Told.day(x, "c0=0;c0=8"), 2);
        judge.due("CHAIRS", x.count(9), 8);
        judge.sentence("Promise 16: s or w and a digit (one of PEOPLE): SICK, or not");
        judge.due("s0;s2;w0", Told.day(x, "s0;s2;w0"), 3);
        judge.due("SICK: 2 alone", x.of(0, 1) * 100 + x.of(1, 1) * 10 + x.of(2, 1), 1);
        judge.sentence("Promise 16: l, a digit, >, a digit, *, a number (1 or 2 digits): lend()");
        int credit = x.of(0, 8);
        judge.due("l0>1*1;l0>1*99;l0>1*09", Told.day(x, "l0>1*1;l0>1*99;l0>1*09"), 3);
        judge.due("CREDIT", x.of(0, 8) - credit, 109);
        judge.sentence("Promise 16: the ROW: how many QUARTERS went by, how often somebody asked, 1 if one was refused, else 0");
        OneChairShort order = three();
        judge.due("one by one", Told.day(order, "q2;c0=3;q1;c0=1;q1;s1;s2;s0;q5"), 9);
        // Asked: in the second QUARTER; none with three chairs; then two stand up, not having stood; then all are SICK.
        judge.row("one by one", order, 9, 1, 0);
    }

    private static void promise16Positions() {
        judge.sentence("Promise 16: -1 - p: the sign at p can't stand there (as town(); 60 signs); nothing is done then");
        String[] wrong = {"r", "5", "q", "q;", "q1;", "q1q", "q123", "q-", "c", "c;", "cc", "c0", "c00", "c0>1", "c0=", "c0=9", "c0=-", "c0=88", "s", "sx",
            "s;", "s00", "s0!", "w", "w-", "w0w", "l", "l>", "l0", "l00", "l0=", "l0>", "l0>*", "l0>x", "l0>1", "l0>11", "l0>1>", "l0>1*", "l0>1*;",
            "l0>1*-", "l0>1*100", "q1;;", "q1; q1", "q1,q1", ";q1", "Q1", "C0=1", "q1;c0=1;s0;w0;l0>1*5;x"};
        int[] due = {0, 0, 1, 1, 3, 2, 3, 1, 1, 1, 1, 2, 2, 2, 3, 3, 3, 4, 1, 1,
            1, 2, 2, 1, 1, 2, 1, 1, 2, 2, 2, 3, 3, 3, 4, 4, 4, 5, 5,
            5, 7, 3, 3, 2, 0, 0, 0, 21};
        for (int k = 0; k < wrong.length; k++) {
            OneChairShort x = three();
            x.lend(0, 2, 7);
            String was = Seen.all(x);
            judge.due(wrong[k], Told.day(x, wrong[k]), -1 - due[k]);
            judge.same(wrong[k], Seen.all(x), was);
        }
        String seven = "l0>1*10;l0>1*10;l0>1*10;l0>1*10;l0>1*10;l0>1*10;l0>1*1;";
        OneChairShort x = three();
        judge.due("seven acts and ;", seven.length(), 55);
        judge.due("60 signs", Told.day(x, seven + "q1;q1"), 9);
        judge.due("60 signs, the last one wrong", Told.day(x, seven + "q1;qx"), -60);
        judge.due("60 signs, its end too early", Told.day(x, seven + "q10;q"), -61);
        judge.due("60 signs, other acts", Told.day(x, seven + "q1;s0"), 9);
        judge.due("61 signs: the first 60 could end", Told.day(x, seven + "q1;q1" + "2"), -61);
        judge.due("61 signs: the first 60 could go on", Told.day(x, seven + "q10;q" + "2"), -61);
        judge.due("61 signs: the 61st wrong", Told.day(x, seven + "q1;q1" + "x"), -61);
        judge.due("62 signs: the 60th wrong", Told.day(x, seven + "q1;qx" + "xx"), -60);
        judge.due("80 signs", Told.day(x, seven + "q1;q1;q1;q1;q1;q1;q1;q1;q"), -61);
        judge.due("80 signs, the second wrong", Told.day(x, "q" + seven + "q1;q1;q1;q1;q1;q1;q1;q1;"), -2);
        judge.due("nothing of the wrong ones was done: two and one QUARTERS", x.count(2), 3);
    }

    private static void promise16Refused() {
        judge.sentence("Promise 16: they are done one by one, till one is refused: how many were done");
        String[] refused = {"c1=0", "c9=8", "s3", "s9", "w3", "w9", "l0>0*1", "l0>3*1", "l3>0*1", "l0>9*1", "l9>0*1", "l0>1*0", "l0>1*00"};
        for (String act : refused) {
            OneChairShort x = three();
            judge.due(act, Told.day(x, "q1;q2;" + act + ";q3;s0"), 2);
            judge.row(act, x, 3, 2, 1);
            judge.due(act + ": what is behind is not done", x.of(0, 1), 0);
            judge.due(act + ": NOW", x.count(2), 3);
            judge.due(act + ": both can be undone", x.undo(), 1);
        }
        OneChairShort x = three();
        judge.due("the first", Told.day(x, "s9;q5"), 0);
        judge.row("the first", x, 0, 0, 1);
        judge.due("the last", Told.day(x, "q5;s9"), 1);
        judge.row("the last", x, 5, 4, 1);
        OneChairShort nobody = new OneChairShort();
        judge.due("nobody, no ROOMS: q1", Told.day(nobody, "q1;c0=1"), 1);
        judge.row("nobody, no ROOMS", nobody, 1, 0, 1);
    }

    private static void promise16Undone() {
        judge.sentence("Promise 16: (Each q can be undone by itself, if no l came behind.)");
        OneChairShort x = three();
        Told.day(x, "q1;q2;q0;q3;s0;c0=2;q4");
        judge.due("four", x.count(5), 4);
        int[] now = {6, 3, 1, 0};
        for (int k = 0; k < 4; k++) {
            judge.due("undo() number " + (k + 1), x.undo(), 3 - k);
            judge.due("NOW behind it", x.count(2), now[k]);
        }
        judge.due("SICK stays", x.of(0, 1), 1);
        judge.due("CHAIRS stay", x.count(9), 2);
        Told.day(x, "q1;q2;l0>1*5;q3;q4");
        judge.due("those behind l", x.count(5), 2);
        Told.day(x, "q1;l0>0*5;q3");
        judge.due("a refused l forgets none", x.count(5), 3);
        Told.day(x, "q1;q1;q1;q1;q1;q1;q1;q1;q1;q1;q1;q1");
        judge.due("ten are kept", x.count(5), 10);
    }

    private static void promise17() {
        judge.sentence("Promise 17: whether one STANDS in each of the next n (0 .. 30; the lowest bit is the next one)");
        OneChairShort x = Told.fresh("r0;10;20", "0-", "----------------------------0-".substring(6));
        judge.due("will(0, 0)", x.will(0, 0), 0);
        judge.due("will(0, 1)", x.will(0, 1), 1);
        judge.due("will(0, 2)", x.will(0, 2), 1);
        judge.due("will(0, 3)", x.will(0, 3), 5);
        judge.due("will(0, 30)", x.will(0, 30), 0x15555555);
        judge.due("will(1, 22)", x.will(1, 22), 0);
        judge.due("will(1, 23)", x.will(1, 23), 1 << 22);
        judge.due("will(1, 30)", x.will(1, 30), 1 << 22);
        x.quarters(1);
        judge.due("will(0, 30) then", x.will(0, 30), 0x2AAAAAAA);
        x.quarters(16);
        judge.due("the sixth next one", x.will(1, 6), 1 << 5);
        x.quarters(200);
        // NOW is 217 of 24 signs: number 1; its 0 is number 22.
        judge.due("the 22nd next one", x.will(1, 30), 1 << 21);
        judge.sentence("Promise 17: NoSuchElementException: others");
        int[][] wrong = {{0, -1}, {0, 31}, {0, LEAST}, {0, MOST}, {2, 0}, {2, 5}, {-1, 5}, {8, 5}, {LEAST, 0}, {MOST, 0}, {2, 31}};
        for (int[] one : wrong) {
            judge.noSuch("will(" + one[0] + ", " + one[1] + ")", () -> x.will(one[0], one[1]));
        }
    }

    private static void promise18() {
        judge.sentence("Promise 18: after how many QUARTERS first (0: as it is now)");
        OneChairShort x = Told.fresh("r0;10;20", "00-000-", "0");
        judge.due("longest(0, 0)", x.longest(0, 0), 0);
        judge.row("longest(0, 0)", x, 0);
        judge.due("longest(0, 1)", x.longest(0, 1), 1);
        judge.row("longest(0, 1)", x, 1);
        judge.due("longest(0, 5): two twice, the first", x.longest(0, 5), 2);
        judge.row("longest(0, 5)", x, 2);
        judge.due("longest(0, 6)", x.longest(0, 6), 3);
        judge.row("longest(0, 6)", x, 6);
        judge.due("longest(0, 200)", x.longest(0, 200), 3);
        judge.row("longest(0, 200)", x, 6);
        judge.due("longest(1, 200)", x.longest(1, 200), 200);
        judge.row("longest(1, 200)", x, 200);
        judge.sentence("Promise 18: what it has STOOD till now counts on");
        x.quarters(1);
        judge.due("1 and 1", x.longest(0, 1), 2);
        judge.row("1 and 1", x, 1);
        x.quarters(5);
        judge.due("3 now", x.longest(0, 200), 3);
        judge.row("3 now: no longer one comes", x, 0);
        judge.due("6 and 200", x.longest(1, 200), 206);
        judge.row("6 and 200", x, 200);
        judge.sentence("Promise 18: NONE: others");
        int[][] wrong = {{0, -1}, {0, 201}, {0, LEAST}, {0, MOST}, {2, 5}, {-1, 5}, {LEAST, 5}, {MOST, 5}};
        for (int[] one : wrong) {
            judge.due("longest(" + one[0] + ", " + one[1] + ")", x.longest(one[0], one[1]), -1);
        }
        judge.row("the ROW stays", x, 200);
        OneChairShort sits = Told.fresh("r1;10", "0");
        judge.due("who never stands", sits.longest(0, 200), 0);
        judge.row("who never stands: as it is now", sits, 0);
    }
}
