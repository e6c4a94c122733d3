/** Term 2 and promises 11 to 18: quarters. */
public final class QuartersTest {
    private static final Judge judge = new Judge();

    public static void main(String[] args) {
        term2();
        term2Rules();
        term2Rooms();
        promise11();
        promise12();
        promise12Forgotten();
        promise13();
        promise14();
        promise15();
        promise16();
        promise16Faults();
        promise16Refused();
        promise17();
        promise18();
        judge.finish("QuartersTest");
    }

    /** One chair for three: 0, 1, 2, 0, 1 .. sit, a quarter each. */
    private static OneChairShort three() {
        return Told.fresh("r1;10;20;30", "0", "0", "0");
    }

    private static void sitting(String when, OneChairShort x, int sit, int stand) {
        judge.due(when + ": who sit", x.count(3), sit);
        judge.due(when + ": who stand", x.count(4), stand);
    }

    private static void term2() {
        OneChairShort x = three();
        sitting("ahead of all quarters", x, 0, 0);
        int[] sit = {1, 2, 4, 1, 2, 4};
        int[] asked = {0, 1, 1, 1, 1, 1};
        for (int q = 0; q < 6; q++) {
            judge.due("quarter " + q, x.quarters(1), asked[q]);
            sitting("quarter " + q, x, sit[q], 7 & ~sit[q]);
        }
        judge.due("NOW", x.count(2), 6);
        judge.due("s of 2", x.of(2, 4), 1);
        judge.due("t of 0", x.of(0, 5), 2);
        judge.due("a of 0", x.of(0, 6), 2);
        judge.due("b of 0", x.of(0, 7), 4);
        judge.due("0 gave twice, asked once", x.of(0, 8), 1);
        judge.due("1 gave twice, asked twice", x.of(1, 8), 0);
        judge.due("2 gave once, asked twice", x.of(2, 8), -1);
        OneChairShort sick = three();
        sick.sick(0, true);
        judge.due("nobody asks a sick one", sick.quarters(9), 0);
        sitting("nobody asks a sick one", sick, 1, 6);
        judge.due("nobody asks where nobody sits", Told.fresh("r0;1;2", "0", "0").quarters(9), 0);
        judge.due("nobody asks where all sit", Told.fresh("r2;1;2", "0", "0").quarters(9), 0);
    }

    private static void term2Rules() {
        OneChairShort x = three();
        Told.rule(x, 0, "g");
        Told.rule(x, 1, "g");
        x.quarters(1);
        sitting("rule 0: the oldest sits", x, 4, 3);
        x.quarters(1);
        sitting("rule 0: the second asks it", x, 2, 5);
        Told.rule(x, 0, "0-g");
        x.quarters(1);
        sitting("rule 0: the youngest asks", x, 1, 6);
        OneChairShort two = Told.fresh("r2;10;20;30;40", "0", "0", "0", "0");
        Told.rule(two, 1, "g");
        two.quarters(1);
        sitting("two chairs", two, 3, 12);
        two.quarters(1);
        sitting("rule 1: the older of those who sit gives", two, 5, 10);
        judge.due("1 gave to 2", two.gave(1, 2), 1);
        Told.rule(two, 0, "0-t");
        two.quarters(1);
        sitting("1 stood less than 3, 2 is older than 0", two, 3, 12);
        judge.due("2 gave to 1", two.gave(2, 1), 1);
        OneChairShort stood = Told.fresh("r1;10;20;30", "0", "0", "-0");
        Told.rule(stood, 0, "i");
        stood.quarters(1);
        sitting("the last one is not there yet", stood, 2, 1);
        stood.quarters(1);
        sitting("who comes has not stood and does not ask, 0 does", stood, 1, 6);
    }

    private static void term2Rooms() {
        OneChairShort x = Told.fresh("r1;r1;10;20;30", "01", "0", "1");
        x.quarters(1);
        sitting("0 and 2 sit", x, 5, 2);
        x.quarters(1);
        sitting("0 comes and stands, 1 takes its chair", x, 6, 1);
        judge.due("0 stood", x.of(0, 5), 1);
        judge.due("its s is 0 then", x.of(0, 4), 0);
        judge.due("0 is in room 1", x.of(0, 2), 1);
        judge.due("back in room 0, 0 asks who sat", x.quarters(1), 1);
        sitting("it stood elsewhere", x, 5, 2);
        judge.due("1 gave to 0", x.gave(1, 0), 1);
        OneChairShort away = Told.fresh("r1;r2;10;20;30", "01", "0", "01");
        away.quarters(1);
        sitting("0 sits of three", away, 1, 6);
        away.quarters(1);
        sitting("0 and 2 go on and sit there, 1 too", away, 7, 0);
        judge.due("s of 0 goes on in another room", away.of(0, 4), 2);
        judge.due("t of 2 ends", away.of(2, 5), 0);
        OneChairShort asked = Told.fresh("r2;r1;10;20;30", "01", "-1", "11");
        asked.quarters(1);
        judge.due("who came and sat there, having sat, can be asked: not by who did not stand", asked.quarters(1), 0);
        OneChairShort nowhere = Told.fresh("r1;10;20", "00-", "0");
        nowhere.quarters(3);
        sitting("who is nowhere is neither", nowhere, 2, 0);
        judge.due("s and t are 0 nowhere", nowhere.of(0, 4) + nowhere.of(0, 5), 0);
        nowhere.quarters(1);
        sitting("who was nowhere stands at first", nowhere, 2, 1);
        OneChairShort came = Told.fresh("r1;r1;10;20;30", "01", "10", "1");
        came.quarters(1);
        sitting("0 in 0, 1 in 1, 2 stands in 1", came, 3, 4);
        judge.due("2 takes the free chair, 0 comes and did not stand", came.quarters(1), 0);
        sitting("0 stands, 1 took the chair of 0", came, 6, 1);
    }

    private static void promise11() {
        OneChairShort x = three();
        judge.due("quarters(0)", x.quarters(0), 0);
        judge.row("quarters(0)", x, 0, 0);
        judge.due("quarters(5)", x.quarters(5), 4);
        judge.row("quarters(5)", x, 2, 10);
        judge.due("quarters(0) then", x.quarters(0), 0);
        judge.row("quarters(0) then", x, 2, 0);
        judge.due("quarters(201)", x.quarters(201), -1);
        judge.due("quarters(-1)", x.quarters(-1), -1);
        judge.row("quarters, refused: the row stays", x, 2, 0);
        judge.due("quarters, refused: NOW", x.count(2), 5);
        judge.due("quarters(200)", x.quarters(200), 200);
        judge.row("quarters(200)", x, 2, 400);
        judge.due("quarters(200): NOW", x.count(2), 205);
        OneChairShort rooms = Told.fresh("r1;r1;1;2;3;4", "0", "0", "1", "1");
        judge.due("one asks in each room", rooms.quarters(2), 2);
        judge.row("one stands in each room", rooms, 2, 4);
    }

    private static void promise12() {
        OneChairShort x = three();
        judge.due("undo: none", x.undo(), -1);
        x.quarters(2);
        int credit = x.of(0, 8);
        x.quarters(0);
        judge.due("undo: quarters(0) is not kept", x.count(5), 1);
        x.quarters(201);
        judge.due("undo: a refused one is not kept", x.count(5), 1);
        x.quarters(3);
        x.sick(2, true);
        x.chairs(0, 2);
        judge.due("undo: two are kept", x.count(5), 2);
        judge.due("undo: one is left", x.undo(), 1);
        judge.due("undo: NOW", x.count(2), 2);
        sitting("undo: 1 sits again", x, 2, 5);
        judge.due("undo: credit", x.of(0, 8), credit);
        judge.due("undo: who gave to whom", x.gave(0, 1), 1);
        judge.due("undo: not yet", x.gave(1, 2), 0);
        judge.due("undo: s", x.of(1, 4), 1);
        judge.due("undo: t", x.of(2, 5), 2);
        judge.due("undo: a", x.of(0, 6), 1);
        judge.due("undo: b", x.of(2, 7), 2);
        judge.due("undo: sick ones stay as they are", x.of(2, 1), 1);
        judge.due("undo: chairs, too", x.count(9), 2);
        judge.due("undo: none is left", x.undo(), 0);
        sitting("undo: nobody is anywhere", x, 0, 0);
        judge.due("undo: where it is", x.of(0, 2), -1);
        judge.due("undo: all are undone", x.undo(), -1);
        OneChairShort many = three();
        for (int k = 0; k < 12; k++) {
            many.quarters(1 + k % 2);
        }
        judge.due("undo: ten are kept", many.count(5), 10);
        for (int k = 9; k >= 0; k--) {
            judge.due("undo: left", many.undo(), k);
        }
        judge.due("undo: the latest ones were kept", many.count(2), 3);
        judge.due("undo: no more", many.undo(), -1);
        many.quarters(7);
        judge.due("undo: again one", many.undo(), 0);
        judge.due("undo: of the right one", many.count(2), 3);
    }

    private static void promise12Forgotten() {
        OneChairShort x = three();
        x.quarters(1);
        x.town();
        judge.due("an empty town() forgets none", x.count(5), 1);
        Told.town(x, "x");
        judge.due("a wrong town() forgets none", x.count(5), 1);
        x.lend(0, 0, 1);
        judge.due("a refused lend() forgets none", x.count(5), 1);
        x.again(0);
        judge.due("a refused again() forgets none", x.count(5), 1);
        x.keep(0);
        x.chairs(0, 2);
        x.sick(1, true);
        x.swap(0, 1);
        Told.plan(x, 0, "00");
        Told.rule(x, 0, "i");
        x.sheet(0, 3, 1, 1);
        judge.due("what is not told to forget forgets none", x.count(5), 1);
        x.again(0);
        judge.due("again() forgets them", x.count(5), 0);
        x.quarters(1);
        x.settle();
        judge.due("settle() forgets them", x.count(5), 0);
        x.quarters(1);
        x.settle();
        judge.due("settle() of nothing, too", x.count(5), 0);
        x.quarters(1);
        x.lend(0, 1, 5);
        judge.due("lend() forgets them", x.undo(), -1);
        x.quarters(1);
        Told.town(x, "r1");
        judge.due("town() forgets them", x.undo(), -1);
    }

    private static void promise13() {
        OneChairShort x = Told.fresh("r1;r1;1;2;3", "0", "0", "1");
        judge.due("in(0): nobody yet", x.in(0), 0);
        judge.row("in(0): nobody yet", x, 0);
        x.quarters(1);
        judge.due("in(0)", x.in(0), 3);
        judge.row("in(0)", x, 1);
        judge.due("in(1)", x.in(1), 4);
        judge.row("in(1)", x, 4);
        judge.due("in(2)", x.in(2), -1);
        judge.due("in(-1)", x.in(-1), -1);
        judge.row("in(-1): the row stays", x, 4);
    }

    private static void promise14() {
        OneChairShort x = three();
        judge.due("asks(0): nobody stood yet", x.asks(0), -2);
        x.quarters(1);
        x.in(0);
        judge.due("asks(1): none such", x.asks(1), -1);
        judge.due("asks(-1): none such", x.asks(-1), -1);
        judge.row("asks, none such: the row stays", x, 1);
        judge.due("asks(0): 1 would", x.asks(0), 1);
        judge.row("asks(0): 0 gives", x, 0);
        sitting("asks changes nothing", x, 1, 6);
        judge.due("asks changes no credit", x.of(0, 8), 0);
        judge.due("asks changes no NOW", x.count(2), 1);
        judge.due("asks is not undone", x.count(5), 1);
        x.sick(0, true);
        judge.due("asks(0): nobody to ask", x.asks(0), -2);
        judge.row("asks(0): the row stays", x, 0);
        OneChairShort comes = Told.fresh("r1;r1;1;2;3", "01", "1", "0");
        comes.quarters(1);
        judge.due("asks(1): who stands is in room 0 and takes the chair", comes.asks(1), -2);
        comes.quarters(1);
        judge.due("asks(0): 0 comes back having stood", comes.asks(0), 0);
        judge.row("asks(0): 2 gives", comes, 2);
        judge.due("asks(1): alone", comes.asks(1), -2);
    }

    private static void promise15() {
        OneChairShort x = Told.fresh("r2;10;20;30;40;50", "0", "0", "0", "0", "-");
        judge.due("queue: nobody", x.queue(0), 0);
        judge.row("queue: nobody", x);
        x.quarters(1);
        judge.due("queue", x.queue(0), 4);
        judge.row("queue: of equal ones the first", x, 2, 3, 0, 1);
        Told.rule(x, 0, "g");
        Told.rule(x, 1, "k*9-i");
        judge.due("queue by rules", x.queue(0), 4);
        judge.row("queue by rules", x, 3, 2, 0, 1);
        x.sick(1, true);
        x.queue(0);
        judge.row("queue: sick ones too", x, 3, 2, 1, 0);
        judge.due("queue(1): none such", x.queue(1), -1);
        judge.due("queue(-1): none such", x.queue(-1), -1);
        judge.row("queue, none such: the row stays", x, 3, 2, 1, 0);
        OneChairShort all = Told.fresh("r3;1;2;3;4;5;6;7;8", "0", "0", "0", "0", "0", "0", "0", "0");
        all.quarters(1);
        Told.rule(all, 0, "(i=5)*3+(i=7)*3");
        all.queue(0);
        judge.row("queue of eight", all, 5, 7, 3, 4, 6, 0, 1, 2);
    }

    private static void promise16() {
        OneChairShort x = three();
        judge.due("day: nothing", x.day(), 0);
        judge.row("day: nothing", x, 0, 0, 0);
        judge.due("day", Told.day(x, "q2;s1;q1;c0=2;w1;q10;l0>2*99"), 7);
        judge.due("day: the text is empty", x.count(8), 0);
        // 1 asks once; nobody asks the sick one; with two chairs somebody who stood asks each time.
        judge.row("day", x, 13, 11, 0);
        judge.due("day: chairs", x.count(9), 2);
        judge.due("day: well again", x.of(1, 1), 0);
        judge.due("day: NOW", x.count(2), 13);
        judge.due("day: lent, all is forgotten", x.count(5), 0);
        OneChairShort y = three();
        judge.due("day: quarters", Told.day(y, "q1;q0;q02;q99"), 4);
        judge.row("day: quarters", y, 102, 101, 0);
        judge.due("day: each can be undone", y.undo(), 2);
        judge.due("day: the 99", y.count(2), 3);
        judge.due("day: the 2", y.undo(), 1);
        judge.due("day: q0 is not one", y.count(2), 1);
        judge.due("day: l forgets", Told.day(y, "q1;l0>1*1;q1;q1"), 4);
        judge.due("day: those behind it are kept", y.count(5), 2);
        judge.due("day: 59 signs, twenty acts", Told.day(y, "q1;q1;q1;q1;q1;q1;q1;q1;q1;q1;q1;q1;q1;q1;q1;q1;q1;q1;q1;q1"), 20);
        judge.due("day: ten of them are kept", y.count(5), 10);
        judge.due("day: 60 signs", Told.day(y, "q1;q1;q1;q1;q1;q1;q1;q1;q1;q1;q1;q1;q1;q1;q1;q1;q1;q1;q1;q10"), 20);
        judge.row("day: 60 signs", y, 29, 29, 0);
    }

    private static void promise16Faults() {
        String[] texts = {"x", "q", "qx", "q1;", "q123", "q1 ", "c", "c0", "c0=", "c0=9", "c0=10", "cx=1", "s", "s01", "w;", "l0", "l0>", "l0>1",
            "l0>1*", "l0>1*100", "l>1*1", "l0>x*1", ";", "q1;;q1", "q1;x", "Q1", "q-1"};
        int[] due = {-1, -2, -2, -4, -4, -3, -2, -3, -4, -4, -5, -2, -2, -3, -2, -3, -4, -5,
            -6, -8, -2, -4, -1, -4, -4, -1, -2};
        for (int k = 0; k < texts.length; k++) {
            OneChairShort x = three();
            x.quarters(0);
            judge.due("day: " + texts[k], Told.day(x, texts[k]), due[k]);
            judge.due("day: " + texts[k] + ": nothing is done", x.count(2), 0);
            judge.due("day: " + texts[k] + ": the text is empty", x.count(8), 0);
            judge.row("day: " + texts[k] + ": the row stays", x, 0, 0);
        }
        OneChairShort x = three();
        String acts = "q1;q1;q1;q1;q1;q1;q1;q1;q1;q1;q1;q1;q1;q1;q1;q1;q1;q1;q1;q1";
        judge.due("day: 61 signs", Told.day(x, acts + ";q"), -61);
        judge.due("day: 61 signs, wrong ones behind", Told.day(x, acts + "00x"), -61);
        judge.due("day: 62 signs, one ahead wrong", Told.day(x, acts + "x00"), -60);
        judge.due("day: 60 signs, its end too early", Told.day(x, acts + ";"), -61);
        judge.due("day: nothing of them is done", x.count(2), 0);
    }

    private static void promise16Refused() {
        String[] acts = {"c1=1", "c9=0", "s3", "w9", "l0>0*5", "l0>3*5", "l9>0*5", "l0>1*0", "l0>1*00"};
        for (String act : acts) {
            OneChairShort x = three();
            judge.due("day: refused: " + act, Told.day(x, "q2;" + act + ";q3"), 1);
            judge.row("day: refused: " + act, x, 2, 1, 1);
            judge.due("day: refused: " + act + ": what was ahead is done", x.count(2), 2);
            judge.due("day: refused: " + act + ": and can be undone", x.undo(), 0);
        }
        OneChairShort x = three();
        judge.due("day: the first is refused", Told.day(x, "s8"), 0);
        judge.row("day: the first is refused", x, 0, 0, 1);
        judge.due("day: the last is refused", Told.day(x, "s0;w0;c1=0"), 2);
        judge.row("day: the last is refused", x, 0, 0, 1);
    }

    private static void promise17() {
        OneChairShort x = three();
        judge.due("will(0, 6)", x.will(0, 6), 0b110110);
        judge.due("will(1, 6)", x.will(1, 6), 0b101101);
        judge.due("will(2, 6)", x.will(2, 6), 0b011011);
        judge.due("will(0, 0)", x.will(0, 0), 0);
        judge.due("will changes nothing", x.count(2), 0);
        x.quarters(2);
        judge.due("will: the next one is the lowest bit", x.will(2, 3), 0b110);
        OneChairShort stands = Told.fresh("r0;1;2", "0", "-");
        judge.due("will: 30 quarters", stands.will(0, 30), (1 << 30) - 1);
        judge.due("will: nowhere", stands.will(1, 30), 0);
        judge.noSuch("will(0, 31)", () -> stands.will(0, 31));
        judge.noSuch("will(0, -1)", () -> stands.will(0, -1));
        judge.noSuch("will(2, 1)", () -> stands.will(2, 1));
        judge.noSuch("will(-1, 1)", () -> stands.will(-1, 1));
    }

    private static void promise18() {
        OneChairShort x = three();
        judge.due("longest(0, 0)", x.longest(0, 0), 0);
        judge.row("longest(0, 0)", x, 0);
        judge.due("longest(0, 2)", x.longest(0, 2), 1);
        judge.row("longest(0, 2)", x, 2);
        judge.due("longest(0, 200)", x.longest(0, 200), 2);
        judge.row("longest(0, 200): first", x, 3);
        judge.due("longest changes nothing", x.count(2), 0);
        x.quarters(3);
        judge.due("longest: what it stood counts", x.longest(0, 10), 2);
        judge.row("longest: as it is now", x, 0);
        x.quarters(2);
        judge.due("longest: counts on", x.longest(2, 1), 2);
        judge.row("longest: counts on", x, 0);
        OneChairShort sick = Told.fresh("r1;1!;2", "0", "0");
        sick.quarters(4);
        judge.due("longest: 4 and 7", sick.longest(1, 7), 11);
        judge.row("longest: 4 and 7", sick, 7);
        judge.due("longest(1, 201)", sick.longest(1, 201), -1);
        judge.due("longest(1, -1)", sick.longest(1, -1), -1);
        judge.due("longest(2, 1)", sick.longest(2, 1), -1);
        judge.row("longest: the row stays", sick, 7);
    }
}
