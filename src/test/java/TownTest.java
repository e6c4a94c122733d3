/** Promises 1 to 10: the town. */
public final class TownTest {
    private static final Judge judge = new Judge();
    /** In place of a value: the rule is wrong. */
    private static final int FAULT = -444444;

    public static void main(String[] args) {
        promise1();
        promise2();
        promise3();
        promise4();
        promise4Faults();
        promise5();
        promise6();
        promise6Values();
        promise7();
        promise8();
        promise9();
        promise10();
        judge.finish("TownTest");
    }

    private static void promise1() {
        OneChairShort x = new OneChairShort();
        for (int what = 0; what <= 9; what++) {
            judge.due("new: count(" + what + ")", x.count(what), 0);
        }
        judge.due("NONE", OneChairShort.NONE, -1);
        judge.noSuch("new: row(0)", () -> x.row(0));
        judge.noSuch("new: of(0, 0)", () -> x.of(0, 0));
        judge.due("new: in(0)", x.in(0), -1);
        judge.due("new: undo()", x.undo(), -1);
        judge.due("new: again(0)", x.again(0), false);
        judge.due("new: end(0)", x.end(0), true);
    }

    private static void promise2() {
        OneChairShort x = new OneChairShort();
        for (int k = 1; k <= 20; k++) {
            judge.due("sign number " + k, x.sign(0x72313B35), 4 * k);
        }
        judge.due("sign: the 81st", x.sign(0), -1);
        judge.due("sign: refused, the text stays", x.count(8), 80);
        x.end(77);
        judge.due("sign: 77 and 4", x.sign(0), -1);
        x.end(76);
        judge.due("sign: 76 and 4", x.sign(0), 80);
        x.end(0);
        x.sign(0x72313B35);
        judge.due("sign: highest byte first: r1;5", x.town(), 2);
        judge.due("sign: the room", x.count(9), 1);
        judge.due("sign: the age", x.of(0, 0), 5);
        judge.due("sign: of a negative v", x.sign(0xFF313B35), 4);
        judge.due("sign: the sign 255 stands nowhere", x.town(), -1);
        judge.due("sign: of -1", x.sign(-1), 4);
        judge.due("sign: signs 255 do", x.count(8), 4);
    }

    private static void promise3() {
        OneChairShort x = new OneChairShort();
        judge.due("end(0) of nothing", x.end(0), true);
        judge.due("end(1) of nothing", x.end(1), false);
        x.sign(0x37000000);
        judge.due("end(-1)", x.end(-1), false);
        judge.due("end(5) of four", x.end(5), false);
        judge.due("end: the text stays", x.count(8), 4);
        judge.due("end(4) of four", x.end(4), true);
        judge.due("end: all four", x.count(8), 4);
        judge.due("end(1)", x.end(1), true);
        judge.due("end: one", x.count(8), 1);
        judge.due("end: the first sign is left", x.town(), 1);
        judge.due("end: it is an age", x.of(0, 0), 7);
        judge.due("end(MIN)", x.end(Integer.MIN_VALUE), false);
        judge.due("end(MAX)", x.end(Integer.MAX_VALUE), false);
    }

    private static void promise4() {
        OneChairShort x = new OneChairShort();
        judge.due("town: nothing", x.town(), 0);
        judge.due("town: four lines", Told.town(x, "r2;5!;r0;99"), 4);
        judge.due("town: the text is empty then", x.count(8), 0);
        judge.due("town: rooms", x.count(1), 2);
        judge.due("town: people", x.count(0), 2);
        judge.due("town: chairs of 0", x.chairs(0, 2), 2);
        judge.due("town: chairs of 1", x.chairs(1, 0), 0);
        judge.due("town: age of 0", x.of(0, 0), 5);
        judge.due("town: 0 is sick", x.of(0, 1), 1);
        judge.due("town: age of 1", x.of(1, 0), 99);
        judge.due("town: 1 is not sick", x.of(1, 1), 0);
        judge.due("town: nobody is anywhere", x.of(1, 2), -1);
        judge.due("town: more behind", Told.town(x, "r8;05;77!"), 3);
        judge.due("town: a room behind", x.chairs(2, 8), 8);
        judge.due("town: an age of two signs", x.of(2, 0), 5);
        judge.due("town: two digits and sick", x.of(3, 0) * 10 + x.of(3, 1), 771);
        judge.due("town: nothing of it comes", Told.town(x, "r1;50;x"), -7);
        judge.due("town: no room came", x.count(1), 3);
        judge.due("town: nobody came", x.count(0), 4);
        judge.due("town: wrong, the text is empty", x.count(8), 0);
        judge.due("town: after a sick one that did not come", Told.town(x, "50!;y"), -5);
        judge.due("town: one who is well", Told.town(x, "51"), 1);
        judge.due("town: is not sick", x.of(4, 1), 0);
        judge.due("town: all there can be", Told.town(new OneChairShort(), "r1;r1;r1;r1;1;2;3;4;5;6;7!;88!"), 12);
    }

    private static void promise4Faults() {
        String[] texts = {"x", "r", "r9", "r-", "5!!", "555", "5;", ";", "5;;6", "r1r1", "R1", "!5", "5 ", "r1;", "r1!",
            "r1;r1;r1;r1;r1", "r1;r1;r1;r1;r9", "r1;r1;r1;r1;x", "r1;r1;r1;r1;", "1;1;1;1;1;1;1;1;1", "1;1;1;1;1;1;1;1;1x",
            "1;1;1;1;1;1;1;1;r", "1;1;1;1;1;1;1;1;", "r10"};
        int[] due = {-1, -2, -2, -2, -3, -3, -3, -1, -3, -3, -1, -1, -2, -4, -3,
            -13, -13, -13, -13, -17, -17, -18, -17, -3};
        for (int k = 0; k < texts.length; k++) {
            OneChairShort x = new OneChairShort();
            judge.due("town: " + texts[k], Told.town(x, texts[k]), due[k]);
            judge.due("town: " + texts[k] + ": nobody came", x.count(0) + x.count(1), 0);
        }
        OneChairShort full = Told.fresh("r1;r2;r3;1;2;3;4;5;6;7");
        judge.due("town: one room more, not two", Told.town(full, "r4;r5"), -4);
        judge.due("town: one more, not two", Told.town(full, "8;9"), -3);
        judge.due("town: one each", Told.town(full, "r4;8"), 2);
        judge.due("town: no more rooms", Told.town(full, "r0"), -1);
        judge.due("town: no more people", Told.town(full, "0"), -1);
        judge.due("town: nothing, where there is no room", full.town(), 0);
    }

    private static void promise5() {
        OneChairShort x = Told.fresh("r1;r0;10;20");
        judge.due("plan: three signs", Told.plan(x, 0, "1-0"), 3);
        judge.due("plan: the text is empty then", x.count(8), 0);
        x.quarters(1);
        judge.due("plan: quarter 0", x.of(0, 2), 1);
        x.quarters(1);
        judge.due("plan: quarter 1", x.of(0, 2), -1);
        x.quarters(1);
        judge.due("plan: quarter 2", x.of(0, 2), 0);
        x.quarters(1);
        judge.due("plan: again from the first", x.of(0, 2), 1);
        judge.due("plan: none for the other one", x.of(1, 2), -1);
        judge.due("plan: a wrong one", Told.plan(x, 0, "01-2"), -4);
        judge.due("plan: wrong, the text is empty", x.count(8), 0);
        x.quarters(1);
        judge.due("plan: wrong, it stays", x.of(0, 2), -1);
        judge.due("plan: none", x.plan(0), 0);
        judge.due("plan: none such", Told.plan(x, 2, "0"), -100);
        judge.due("plan: none such, the text is empty", x.count(8), 0);
        judge.due("plan: none such, below 0", Told.plan(x, -1, "x"), -100);
        judge.due("plan: none such is asked first", Told.plan(x, 8, "9"), -100);
        x.quarters(3);
        judge.due("plan: none, it is nowhere", x.of(0, 2), -1);
        judge.due("plan: 24 signs", Told.plan(x, 1, "010101010101010101010101"), 24);
        judge.due("plan: 25 signs", Told.plan(x, 1, "0101010101010101010101010"), -25);
        judge.due("plan: 25 signs, the last one wrong", Told.plan(x, 1, "010101010101010101010101x"), -25);
        judge.due("plan: 28 signs, one ahead wrong", Told.plan(x, 1, "01010101010101010101010201-0"), -24);
        judge.due("plan: a letter", Told.plan(x, 1, "r"), -1);
        OneChairShort roomless = Told.fresh("10");
        judge.due("plan: no rooms", Told.plan(roomless, 0, "0"), -1);
        judge.due("plan: nowhere needs no rooms", Told.plan(roomless, 0, "--"), 2);
    }

    private static void promise6() {
        String[] texts = {"x", "s+", "s<t<a", "s<t=a", "(s<t)<a", "(s<t", "((((s))))", "(((((s)))))", "(((((s", "()", "1000", "s t", "st",
            "9s", "s9", "--s", "s--s", "s*-t", "s-*t", "-", "+s", "s)", "(s))", "((s)", "<s", "s<", "a>b>", "S", "(1<2)+(2<3)",
            "1<(2<3)", "1<2)", "123456", "i+g+k+s+t+a+b+c", "s//t"};
        int[] due = {-1, -3, -4, -4, 0, -5, 0, -5, -5, -2, -4, -2, -2,
            -2, -2, 0, 0, 0, -3, -2, -1, -2, -4, -5, -1, -3, -4, -1, 0,
            0, -4, -4, 0, -3};
        for (int k = 0; k < texts.length; k++) {
            OneChairShort x = Told.fresh("r1;10");
            judge.due("rule: " + texts[k], Told.rule(x, k % 2, texts[k]), due[k]);
            judge.due("rule: " + texts[k] + ": the text is empty", x.count(8), 0);
        }
        OneChairShort x = Told.fresh("r1;10;20");
        String forty = "1+1+1+1+1+1+1+1+1+1+1+1+1+1+1+1+1+1+1+12";
        judge.due("rule: 40 signs", Told.rule(x, 0, forty), 0);
        judge.due("rule: 40 signs: 19 and 12", x.of(0, 9), 31);
        judge.due("rule: 41 signs", Told.rule(x, 0, forty + "3"), -41);
        judge.due("rule: 41 signs, the last one wrong", Told.rule(x, 0, forty + "x"), -41);
        judge.due("rule: 44 signs, one ahead wrong", Told.rule(x, 0, "1+1+1+1x" + forty.substring(4)), -8);
        judge.due("rule: 40 signs, its end too early", Told.rule(x, 0, forty.substring(0, 38) + "1+"), -41);
        judge.due("rule: wrong, it stays", x.of(0, 9), 31);
        judge.due("rule(2)", Told.rule(x, 2, "s"), -100);
        judge.due("rule(2): the text is empty", x.count(8), 0);
        judge.due("rule(-1) is asked first", Told.rule(x, -1, "x"), -100);
        judge.due("rule: opened and never closed", Told.rule(x, 0, "1*((2<(3+"), -10);
        judge.due("rule: a right one behind a wrong one", Told.rule(x, 0, "(1+2)*3<9"), 0);
        judge.due("rule: nothing of the wrong one is left", x.of(0, 9), 0);
        judge.due("rule: a ) too many behind a wrong one", Told.rule(x, 0, "1)"), -2);
        judge.due("rule: none", x.rule(0), 0);
        judge.due("rule: none is t", x.of(0, 9), 0);
    }

    /** Person 1 stands, sits twice, gives its chair and stands three times: s 0, t 3, a 2, b 4, and c 5. */
    private static void promise6Values() {
        OneChairShort x = Told.fresh("r0;10;37", "--00000", "0");
        x.quarters(1);
        x.chairs(0, 1);
        x.quarters(3);
        x.sick(0, true);
        x.quarters(2);
        x.lend(1, 0, 4);
        int[] is = {0, 3, 2, 4, 5};
        for (int k = 0; k < 5; k++) {
            judge.due("of(1, " + (4 + k) + ")", x.of(1, 4 + k), is[k]);
        }
        String[] texts = {"i", "g", "k", "s", "t", "a", "b", "c", "0", "007", "999", "1+2*3", "7-2-1", "7-2+1", "100/7/2", "7/2*2",
            "-7/2", "7/-2", "5/0", "0/0", "-5/0*3+1", "--3", "---3", "2*-3", "2--3", "(1+2)*3", "-(1-4)", "1<2", "2<1", "2>1", "1>2", "3=3", "3<3", "3>3",
            "3=4", "1+1=2", "2<1+1", "(1<2)+(2>1)*5", "(1<2)=(3<4)", "((((7))))", "-g", "g/10*10", "(g>30)*100-(g<30)",
            "999*999*999*999", "-(999*999*999*999)-1", "999*999*999>0", "-1-999*999*2152", "a*b-c"};
        int[] due = {1, 37, 0, 0, 3, 2, 4, 5, 0, 7, 999, 7, 4, 6, 7, 6,
            -3, -3, 0, 0, 1, 3, -3, -6, 5, 9, 3, 1, 0, 1, 0, 1, 0, 0,
            0, 1, 0, 6, 1, 7, -37, 30, 100,
            999 * 999 * 999 * 999, -(999 * 999 * 999 * 999) - 1, 999 * 999 * 999 > 0 ? 1 : 0, FAULT, 3};
        for (int k = 0; k < texts.length; k++) {
            judge.due("rule: " + texts[k], Told.rule(x, 1, texts[k]), due[k] == FAULT ? -15 : 0);
            if (due[k] != FAULT) {
                judge.due("value of " + texts[k], x.of(1, 10), due[k]);
            }
        }
        // 0 - 2^31 by wrapping, then by -1: it stays as it is.
        Told.rule(x, 0, "(0-512*512*512*16)/(0-1)");
        judge.due("the least int by -1", x.of(0, 9), Integer.MIN_VALUE);
        judge.due("rule 1 is not rule 0", x.of(1, 10), 3);
        x.rule(1);
        judge.due("rule 1, none, is s", x.of(0, 10), x.of(0, 4));
    }

    private static void promise7() {
        OneChairShort x = Told.fresh("r1;20;40!;60", "0", "0", "0-");
        Told.rule(x, 0, "t*10+i");
        Told.rule(x, 1, "s*100+g");
        x.quarters(1);
        int[][] due = {
            {20, 0, 0, 0, 0, 1, 0, 1, 0, 10, 20},
            {40, 1, 0, 0, 0, 1, 0, 1, 0, 11, 40},
            {60, 0, 0, 1, 1, 0, 1, 0, 0, 2, 160}};
        for (int person = 0; person < 3; person++) {
            for (int what = 0; what <= 10; what++) {
                judge.due("of(" + person + ", " + what + ")", x.of(person, what), due[person][what]);
            }
        }
        x.quarters(1);
        int[] behind = {60, 0, -1, 0, 0, 0, 1, 0, 0, 2, 60};
        for (int what = 0; what <= 10; what++) {
            judge.due("of(2, " + what + ") nowhere", x.of(2, what), behind[what]);
        }
        judge.due("of(1, 3) sits now", x.of(1, 3), 1);
        judge.noSuch("of(3, 0)", () -> x.of(3, 0));
        judge.noSuch("of(-1, 0)", () -> x.of(-1, 0));
        judge.noSuch("of(0, 11)", () -> x.of(0, 11));
        judge.noSuch("of(0, -1)", () -> x.of(0, -1));
        judge.noSuch("of(MIN, MAX)", () -> x.of(Integer.MIN_VALUE, Integer.MAX_VALUE));
    }

    private static void promise8() {
        OneChairShort x = Told.fresh("r1;r8;5;6;7", "0", "0", "0");
        judge.due("chairs(0, 3)", x.chairs(0, 3), 1);
        judge.due("chairs(0, 3) again", x.chairs(0, 3), 3);
        judge.due("chairs(1, 0)", x.chairs(1, 0), 8);
        judge.due("chairs(0, 9)", x.chairs(0, 9), -1);
        judge.due("chairs(0, -1)", x.chairs(0, -1), -1);
        judge.due("chairs(2, 1)", x.chairs(2, 1), -1);
        judge.due("chairs(-1, 1)", x.chairs(-1, 1), -1);
        judge.due("chairs: refused, they stay", x.count(9), 3);
        judge.due("chairs(1, 8)", x.chairs(1, 8), 0);
        x.quarters(1);
        judge.due("chairs: three sit", x.count(3), 7);
        x.chairs(0, 1);
        judge.due("chairs: they sit till the next quarter", x.count(3), 7);
        x.quarters(1);
        judge.due("chairs: two stand up, the first of equal ones", x.count(3), 4);
        judge.due("chairs: who stood up did not ask yet", x.of(2, 8), 0);
        Told.rule(x, 1, "k");
        x.chairs(0, 3);
        x.quarters(1);
        x.sick(1, true);
        x.chairs(0, 2);
        x.quarters(1);
        judge.due("chairs: a sick one stands up, too", x.count(4), 2);
    }

    private static void promise9() {
        OneChairShort x = Told.fresh("r1;5;6", "0", "0");
        judge.due("sick(0, true)", x.sick(0, true), true);
        judge.due("sick: it is", x.of(0, 1), 1);
        x.quarters(5);
        judge.due("sick: nobody asked", x.of(1, 5), 5);
        judge.due("sick(0, true) again", x.sick(0, true), true);
        judge.due("sick(0, false)", x.sick(0, false), true);
        judge.due("sick: it is not", x.of(0, 1), 0);
        judge.due("sick: somebody asks", x.quarters(1), 1);
        judge.due("sick(2, true)", x.sick(2, true), false);
        judge.due("sick(-1, false)", x.sick(-1, false), false);
    }

    private static void promise10() {
        OneChairShort x = Told.fresh("1;2;3");
        judge.due("sheet of ints", x.sheet(2, 3, 10, 20), 90);
        judge.due("sheet: 30", x.of(1, 0), 30);
        judge.due("sheet: 50", x.of(2, 0), 50);
        judge.due("sheet: short, the others are 0", x.sheet(2, 1, 7, 5), 7);
        judge.due("sheet: 0 behind", x.of(1, 0), 0);
        judge.due("sheet: entries beyond are left aside", x.sheet(2, 8, 1, 1), 6);
        judge.due("sheet: put to 99 and 0", x.sheet(2, 3, -5, 105), 198);
        judge.due("sheet: -5 is 0", x.of(0, 0), 0);
        judge.due("sheet: 100 is 99", x.of(1, 0), 99);
        judge.due("sheet of bytes: 300 is 44", x.sheet(0, 1, 300, 0), 44);
        judge.due("sheet of bytes: 200 is below 0", x.sheet(0, 1, 200, 0), 0);
        judge.due("sheet of bytes: 100, 156, 212", x.sheet(0, 3, 100, 56), 99);
        judge.due("sheet of bytes: -251 is 5", x.sheet(0, 1, -251, 0), 5);
        judge.due("sheet of shorts: 65541 is 5", x.sheet(1, 1, 65541, 0), 5);
        judge.due("sheet of shorts: 300 is 99", x.sheet(1, 1, 300, 0), 99);
        judge.due("sheet of shorts: 40000 is below 0", x.sheet(1, 1, 40000, 0), 0);
        judge.due("sheet of ints: as ints", x.sheet(2, 3, Integer.MAX_VALUE, 1), 99);
        judge.due("sheet of no entries", x.sheet(1, 0, 5, 5), 0);
        x.sheet(2, 3, 1, 1);
        judge.due("sheet: n below 0", x.sheet(2, -1, 9, 9), -2);
        judge.due("sheet: n below 0, kind 0", x.sheet(0, Integer.MIN_VALUE, 9, 9), -2);
        judge.due("sheet: n above 8", x.sheet(1, 9, 9, 9), -1);
        judge.due("sheet: missing, n above 8", x.sheet(3, 9, 9, 9), -1);
        judge.due("sheet: kind 4", x.sheet(4, 3, 9, 9), -1);
        judge.due("sheet: kind -1", x.sheet(-1, -1, 9, 9), -1);
        judge.due("sheet: nothing changed", x.of(0, 0) * 100 + x.of(1, 0) * 10 + x.of(2, 0), 123);
        judge.due("sheet: missing", x.sheet(3, -7, 9, 9), -3);
        judge.due("sheet: missing, all 0", x.of(0, 0) + x.of(1, 0) + x.of(2, 0), 0);
        judge.due("sheet: nobody", new OneChairShort().sheet(2, 8, 9, 9), 0);
    }
}
