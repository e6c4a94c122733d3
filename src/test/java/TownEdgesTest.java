/** Promises 1 to 10: each sentence that names a boundary case. */
public final class TownEdgesTest {
    private static final Judge judge = new Judge();
    private static final int LEAST = Integer.MIN_VALUE;
    private static final int MOST = Integer.MAX_VALUE;

    public static void main(String[] args) {
        promise1();
        promise2();
        promise3();
        promise4Positions();
        promise4NoRoom();
        promise4Nothing();
        promise5();
        promise5Positions();
        promise6();
        promise7();
        promise8();
        promise9();
        promise10Entries();
        promise10Refused();
        judge.finish("TownEdgesTest");
    }

    private static String many(String signs, int times) {
        StringBuilder all = new StringBuilder();
        for (int k = 0; k < times; k++) {
            all.append(signs);
        }
        return all.toString();
    }

    private static void promise1() {
        judge.sentence("Promise 1: No ROOMS, nobody.");
        OneChairShort x = new OneChairShort();
        judge.due("PEOPLE", x.count(0), 0);
        judge.due("ROOMS", x.count(1), 0);
        judge.noSuch("of(0, 0)", () -> x.of(0, 0));
        judge.due("in(0)", x.in(0), -1);
        judge.due("sick(0, true)", x.sick(0, true), false);
        judge.due("chairs(0, 1)", x.chairs(0, 1), -1);
        judge.due("told(0, 0)", x.told(0, 0), -1);
        judge.noSuch("will(0, 0)", () -> x.will(0, 0));
        judge.noSuch("spares(0, 0)", () -> x.spares(0, 0));
        judge.due("quarters go by all the same", x.quarters(2), 0);
        judge.row("quarters go by all the same", x, 0, 0);
        judge.due("one object is not another", new OneChairShort().count(2), 0);
    }

    private static void promise2() {
        judge.sentence("Promise 2: Four signs come behind THE TEXT, of v the highest byte first");
        OneChairShort x = new OneChairShort();
        x.sign(0x72 << 24 | 0x30 << 16 | 0x3B << 8 | 0x39);
        judge.due("behind what there is", x.sign(0x213B3131), 8);
        judge.due("r0;9!;11", x.town(), 3);
        judge.due("9!", x.of(0, 0) * 10 + x.of(0, 1), 91);
        judge.due("11", x.of(1, 0), 11);
        judge.due("sign(LEAST): 128 0 0 0", x.sign(LEAST), 4);
        judge.due("the sign 128 can't stand anywhere", x.town(), -1);
        x.sign(0x31B0B0B0);
        judge.due("the sign 176 is no 0, though 176 less 128 is", x.town(), -2);
        x.sign(0x35003500);
        judge.due("the sign 0 is one", x.count(8), 4);
        judge.due("the sign 0 can't stand", x.town(), -2);
        judge.sentence("Promise 2: Refused: there would be more than 80.");
        for (int from = 77; from <= 80; from++) {
            OneChairShort full = new OneChairShort();
            for (int k = 1; k <= 20; k++) {
                judge.due("sign number " + k, full.sign(0x35353535), 4 * k);
            }
            full.end(from);
            judge.due(from + " and 4", full.sign(0), -1);
            judge.due(from + " stay", full.count(8), from);
        }
        OneChairShort full = Told.text(new OneChairShort(), "7;" + many(" ", 78));
        full.sign(0x78787878);
        full.end(1);
        judge.due("a refused one changes no sign", full.town(), 1);
    }

    private static void promise3() {
        judge.sentence("Promise 3: true; false if it has not so many, or n is below 0");
        OneChairShort x = Told.text(new OneChairShort(), "1;22;3");
        judge.due("end(7) of six", x.end(7), false);
        judge.due("end(6) of six", x.end(6), true);
        judge.due("six", x.count(8), 6);
        judge.due("end(-1)", x.end(-1), false);
        judge.due("six still", x.count(8), 6);
        judge.due("end(3)", x.end(3), true);
        judge.due("end(4): it has but three now", x.end(4), false);
        judge.due("1;2", x.town(), 2);
        judge.due("2, not 22", x.of(1, 0), 2);
        judge.due("end(0) of nothing", x.end(0), true);
        judge.due("end(1) of nothing", x.end(1), false);
        x.sign(0x31323334);
        judge.due("end(0)", x.end(0), true);
        judge.due("nothing", x.count(8), 0);
        OneChairShort all = Told.text(new OneChairShort(), many("1", 80));
        judge.due("end(81) of 80", all.end(81), false);
        judge.due("end(80) of 80", all.end(80), true);
    }

    private static void promise4Positions() {
        judge.sentence("Promise 4: -1 - p: the sign at p can't stand there");
        String[] texts = {"q", "r:", "r/", "rr", "r0 ", "r01", "r0!", "0r", "0!r", "00!0", "0!!", "0!0", "/", ":", "0/", "0:", "-1", "1,2",
            "r0,r0", "1;;", "1; 2", "1;!", "1;r9", "1;rx", "1;2x", "1;22x", "1;222", "1;2!x"};
        int[] due = {0, 1, 1, 1, 2, 2, 2, 1, 2, 3, 2, 2, 0, 0, 1, 1, 0, 1,
            2, 2, 2, 2, 3, 3, 3, 4, 4, 4};
        for (int k = 0; k < texts.length; k++) {
            judge.due(texts[k], Told.town(new OneChairShort(), texts[k]), -1 - due[k]);
        }
        judge.sentence("Promise 4: its end, if it ends too early");
        judge.due("r", Told.town(new OneChairShort(), "r"), -2);
        judge.due("r8;", Told.town(new OneChairShort(), "r8;"), -4);
        judge.due("77!;", Told.town(new OneChairShort(), "77!;"), -5);
        judge.due("7;r", Told.town(new OneChairShort(), "7;r"), -4);
        judge.sentence("Promise 4: THE TEXT tells of THE TOWN (an empty one: nothing): how many LINES");
        judge.due("nothing", new OneChairShort().town(), 0);
        String[] right = {"7", "77", "7!", "77!", "r0", "r8", "0;0", "r0;0;r0;0", "00!;99"};
        int[] lines = {1, 1, 1, 1, 1, 1, 2, 4, 2};
        for (int k = 0; k < right.length; k++) {
            judge.due(right[k], Told.town(new OneChairShort(), right[k]), lines[k]);
        }
        judge.due("all there can be", Told.town(new OneChairShort(), "r1;r2;r3;r4;11!;12!;13!;14!;15!;16!;17!;18!"), 12);
    }

    /** 12 LINES are the most there can be: a text beyond 76 signs has a LINE for which there is no room far ahead of them. */
    private static void promise4NoRoom() {
        judge.sentence("Promise 4: the first sign of a LINE for which there is no room");
        judge.due("a fifth room of 80 signs", Told.town(new OneChairShort(), many("r1;", 26) + "r1"), -13);
        judge.due("a ninth of 80 signs", Told.town(new OneChairShort(), many("00!;", 20)), -33);
        judge.due("a ninth of 79 signs", Told.town(new OneChairShort(), many("1;", 39) + "1"), -17);
        judge.due("a ninth that could not stand itself", Told.town(new OneChairShort(), many("1;", 8) + "!"), -17);
        judge.due("a fifth room that ends too early", Told.town(new OneChairShort(), many("r1;", 4) + "r"), -13);
        judge.due("a fifth room of 9", Told.town(new OneChairShort(), many("r1;", 4) + "r9"), -13);
        judge.due("a wrong sign ahead of it", Told.town(new OneChairShort(), "1;x;" + many("1;", 9)), -3);
        judge.due("a wrong sign behind it", Told.town(new OneChairShort(), many("1;", 9) + "x"), -17);
        judge.due("rooms are full, people are not", Told.town(new OneChairShort(), many("r1;", 4) + "1;r1"), -15);
        judge.due("people are full, rooms are not", Told.town(new OneChairShort(), many("1;", 8) + "r1;1"), -20);
        OneChairShort x = Told.fresh("r1;1;2;3;4;5;6;7");
        judge.due("for one more, not two", Told.town(x, "8;9"), -3);
        judge.due("for one more", Told.town(x, "8"), 1);
        judge.due("for none", Told.town(x, "9"), -1);
        judge.due("for three rooms, not four", Told.town(x, "r1;r1;r1;r1"), -10);
        judge.due("for three rooms", Told.town(x, "r1;r1;r1"), 3);
        judge.due("for none", Told.town(x, "r1"), -1);
    }

    private static void promise4Nothing() {
        judge.sentence("Promise 4: Nothing of it comes, if a LINE can't.");
        OneChairShort x = Told.fresh("r3;10");
        x.quarters(1);
        x.keep(0);
        String was = Seen.all(x);
        String[] wrong = {"r5;50!;r5;51;", "r5;r5;r5;r5", "50;51;52;53;54;55;56;57", "r5;50!x", "50!;r9"};
        for (String text : wrong) {
            judge.due(text + " is wrong", Told.town(x, text) < 0, true);
            judge.same(text, Seen.all(x), was);
        }
        judge.due("again(0): none came since", x.again(0), true);
        judge.sentence("what they tell comes behind what there is");
        judge.due("r1;60", Told.town(x, "r1;60"), 2);
        judge.due("the room that was there", x.chairs(0, 3), 3);
        judge.due("the room behind", x.chairs(1, 1), 1);
        judge.due("who was there", x.of(0, 0), 10);
        judge.due("who comes behind", x.of(1, 0), 60);
        judge.due("who comes behind is well", x.of(1, 1), 0);
    }

    private static void promise5() {
        judge.sentence("Promise 5: (an empty one: none): how many signs");
        OneChairShort x = Told.fresh("r1;10;20", "0");
        judge.due("1", Told.plan(x, 1, "-"), 1);
        judge.due("24", Told.plan(x, 1, many("0", 24)), 24);
        judge.due("none", x.plan(1), 0);
        x.quarters(1);
        judge.due("none: it is nowhere", x.of(1, 2), -1);
        judge.due("the other one's stays", x.of(0, 2), 0);
        Told.plan(x, 1, "0-");
        judge.due("none, where there was one", x.plan(0), 0);
        judge.due("it is there till a QUARTER goes by", x.of(0, 2), 0);
        x.quarters(2);
        judge.due("then it is nowhere", x.of(0, 2), -1);
        judge.sentence("Promise 5: -100: none such (asked first)");
        judge.due("of nothing", x.plan(2), -100);
        judge.due("of a wrong text", Told.plan(x, 2, "x"), -100);
        judge.due("of 25 signs", Told.plan(x, -1, many("0", 25)), -100);
        judge.due("of the least number", Told.plan(x, LEAST, "0"), -100);
        judge.due("of the greatest number", Told.plan(x, MOST, "0"), -100);
        judge.due("nobody is there", new OneChairShort().plan(0), -100);
        judge.sentence("the digit of a ROOM that is there, or -");
        OneChairShort rooms = Told.fresh("10");
        for (int there = 0; there <= 4; there++) {
            judge.due(there + " ROOMS: - ", Told.plan(rooms, 0, "-"), 1);
            judge.due(there + " ROOMS: the next one", Told.plan(rooms, 0, "-" + there), -2);
            if (there > 0) {
                judge.due(there + " ROOMS: the last one", Told.plan(rooms, 0, "-" + (there - 1)), 2);
            }
            Told.town(rooms, "r1");
        }
        judge.due("9 is no ROOM", Told.plan(rooms, 0, "9"), -1);
    }

    private static void promise5Positions() {
        judge.sentence("Promise 5: the sign at p can't stand there (24, if it has more and the first 24 could go on or end)");
        OneChairShort x = Told.fresh("r1;r1;10", "1");
        int[] lengths = {25, 26, 28, 79, 80};
        for (int length : lengths) {
            judge.due(length + " signs", Told.plan(x, 0, many("0", length)), -25);
            judge.due(length + " signs, the 25th wrong", Told.plan(x, 0, many("0", 24) + many("x", length - 24)), -25);
            judge.due(length + " signs, the 24th wrong", Told.plan(x, 0, many("0", 23) + many("x", length - 23)), -24);
            judge.due(length + " signs, the first wrong", Told.plan(x, 0, "2" + many("0", length - 1)), -1);
        }
        String[] wrong = {"/", ":", "2", "r", "!", ";", " ", "\u00b0"};
        for (String sign : wrong) {
            judge.due("the sign " + sign, Told.plan(x, 0, "01-" + sign + "0"), -4);
        }
        x.quarters(1);
        judge.due("the PLAN stays, where another one was wrong", x.of(0, 2), 1);
    }

    private static void promise6() {
        judge.sentence("Promise 6: THE TEXT is a RULE (an empty one: none): 0. -1 - p: as town() (40 signs)");
        OneChairShort x = Told.fresh("r1;10;20");
        Told.rule(x, 0, "i+7");
        String[] wrong = {"q", "i;", "i i", "ii", "i1", "1i", "(", ")", "i)", "(i", "(i))", "()", "*i", "i*", "i**i", "i+*i", "1/", "i<", "<i", "i<<i",
            "i==i", "i<=i", "!i", "I", "i-", "i-)", "(i-)", "r", "j", "h", "l", "u", "d", "f", "`", "i'", "i.5", "i%2"};
        int[] due = {0, 1, 1, 1, 1, 1, 1, 0, 1, 2, 3, 1, 0, 2, 2, 2, 2, 2, 0, 2,
            2, 2, 0, 0, 2, 2, 3, 0, 0, 0, 0, 0, 0, 0, 0, 1, 1, 1};
        for (int k = 0; k < wrong.length; k++) {
            judge.due(wrong[k], Told.rule(x, k % 2, wrong[k]), -1 - due[k]);
        }
        judge.due("wrong ones: RULE 0 stays", x.of(1, 9), 8);
        judge.due("wrong ones: RULE 1 is s", x.of(1, 10), 0);
        String forty = many("i+", 19) + "10";
        judge.due("40 signs", Told.rule(x, 1, forty), 0);
        judge.due("40 signs: 19 of i and 10", x.of(1, 10), 29);
        judge.due("41 signs", Told.rule(x, 1, forty + "0"), -41);
        judge.due("80 signs", Told.rule(x, 1, many("i+", 40)), -41);
        judge.due("80 signs, the 40th wrong", Told.rule(x, 1, many("i+", 19) + "iq" + many("i+", 19) + "i"), -40);
        judge.due("80 signs, the 41st wrong", Told.rule(x, 1, many("i+", 20) + many("q", 40)), -41);
        judge.due("41 signs, 4 opened", Told.rule(x, 1, "((((" + many("i+", 18) + "i"), -41);
        judge.due("40 signs, a NUMBER of three at the end and one digit more", Told.rule(x, 1, many("i+", 18) + "i+100" + "0"), -41);
        judge.due("wrong ones: RULE 1 stays", x.of(1, 10), 29);
        String[] first = {"-", "--", "7*-", "(", "((((", "1<", "1<(", "-(", "(1<2", "1)", "5*(7+-(", "-1-", "1+2*"};
        for (String wrongOne : first) {
            OneChairShort after = Told.fresh("r1;10;20");
            judge.due(wrongOne + " is wrong", Told.rule(after, 0, wrongOne) < 0, true);
            judge.due("5 behind " + wrongOne, Told.rule(after, 0, "5"), 0);
            judge.due("5 behind " + wrongOne, after.of(0, 9), 5);
            judge.due(wrongOne + " is wrong", Told.rule(after, 1, wrongOne) < 0, true);
            judge.due("((((2<3))))-4*5 behind " + wrongOne, Told.rule(after, 1, "((((2<3))))-4*5"), 0);
            judge.due("((((2<3))))-4*5 behind " + wrongOne, after.of(1, 10), -19);
        }
        judge.sentence("Promise 6: -100: no such RULE (asked first)");
        judge.due("rule(2)", Told.rule(x, 2, "i"), -100);
        judge.due("rule(2) of nothing", x.rule(2), -100);
        judge.due("rule(-1) of a wrong text", Told.rule(x, -1, "q"), -100);
        judge.due("rule(MOST) of 41 signs", Told.rule(x, MOST, many("i", 41)), -100);
        judge.due("rule(LEAST)", Told.rule(x, LEAST, "i"), -100);
        judge.due("RULES of nobody", Told.rule(new OneChairShort(), 0, "i"), 0);
    }

    private static void promise7() {
        judge.sentence("Promise 7: NoSuchElementException: none such, another what");
        OneChairShort x = Told.fresh("r1;10!;20", "0");
        int[] noWhat = {-1, 11, LEAST, MOST};
        int[] nobody = {-1, 2, 8, LEAST, MOST};
        for (int what : noWhat) {
            judge.noSuch("of(0, " + what + ")", () -> x.of(0, what));
        }
        for (int what = 0; what <= 10; what++) {
            int one = what;
            judge.noSuch("of(2, " + one + ")", () -> x.of(2, one));
        }
        for (int person : nobody) {
            judge.noSuch("of(" + person + ", 0)", () -> x.of(person, 0));
        }
        int[] due = {10, 1, -1, 0, 0, 0, 0, 0, 0, 0, 0};
        for (int what = 0; what <= 10; what++) {
            judge.due("of(0, " + what + "), ahead of all QUARTERS", x.of(0, what), due[what]);
        }
        judge.sentence("Promise 7: the ROOM where it is (NONE: nowhere)");
        judge.due("nowhere", x.of(1, 2), -1);
        x.quarters(1);
        judge.due("in ROOM 0", x.of(0, 2), 0);
        judge.due("nowhere", x.of(1, 2), -1);
        judge.sentence("Promise 7: 9: RULE 0 for it, 10: RULE 1");
        Told.rule(x, 0, "g+k*100+i*999");
        judge.due("RULE 0 for 0", x.of(0, 9), 110);
        judge.due("RULE 0 for 1", x.of(1, 9), 1019);
        x.sheet(2, 2, 30, 1);
        x.sick(1, true);
        judge.due("AGE and SICK as they are now", x.of(1, 9), 31 + 100 + 999);
        judge.due("RULE 1: s", x.of(0, 10), 1);
    }

    private static void promise8() {
        judge.sentence("Promise 8: CHAIRS of a ROOM become v (0 .. 8): what they were. Refused: others.");
        OneChairShort x = Told.fresh("r1;r5;10;20", "0", "0");
        judge.due("chairs(0, 0)", x.chairs(0, 0), 1);
        judge.due("chairs(0, 8)", x.chairs(0, 8), 0);
        judge.due("chairs(1, 5): as they are", x.chairs(1, 5), 5);
        int[][] wrong = {{0, 9}, {0, -1}, {0, LEAST}, {0, MOST}, {2, 1}, {-1, 1}, {LEAST, 1}, {MOST, 1}, {4, 1}, {2, 9}};
        for (int[] one : wrong) {
            judge.due("chairs(" + one[0] + ", " + one[1] + ")", x.chairs(one[0], one[1]), -1);
        }
        judge.due("all CHAIRS", x.count(9), 13);
        x.quarters(1);
        x.chairs(0, 0);
        judge.due("who sits there sits till a QUARTER goes by", x.count(3), 3);
        judge.due("in(0): the ROW", x.in(0), 3);
        judge.row("in(0): who sits there still", x, 3);
        judge.due("it can be undone still", x.count(5), 1);
        judge.due("undo() leaves CHAIRS", x.undo(), 0);
        judge.due("all CHAIRS", x.count(9), 5);
    }

    private static void promise9() {
        judge.sentence("Promise 9: One is SICK, or not: true. Refused: none such.");
        OneChairShort x = Told.fresh("r1;10!;20", "0", "0");
        judge.due("SICK as it is", x.sick(0, true), true);
        judge.due("SICK", x.of(0, 1), 1);
        judge.due("well", x.sick(0, false), true);
        judge.due("well", x.of(0, 1), 0);
        judge.due("well as it is", x.sick(0, false), true);
        judge.due("the last one", x.sick(1, true), true);
        judge.due("the last one", x.of(1, 1), 1);
        int[] nobody = {2, -1, 8, LEAST, MOST};
        for (int person : nobody) {
            judge.due("sick(" + person + ", true)", x.sick(person, true), false);
            judge.due("sick(" + person + ", false)", x.sick(person, false), false);
        }
    }

    private static void ages(OneChairShort x, String call, int... due) {
        for (int k = 0; k < due.length; k++) {
            judge.due(call + ": AGE of " + k, x.of(k, 0), due[k]);
        }
    }

    private static void promise10Entries() {
        judge.sentence("Promise 10: of bytes, shorts the lowest bits, with their sign; put to 0 .. 99");
        OneChairShort x = Told.fresh("1;2;3");
        int[] entries = {0, 99, 100, 127, 128, 255, 256, 355, -1, -128, -129, -255, -256, -200, 511, 65541, MOST, LEAST};
        int[] bytes = {0, 99, 99, 99, 0, 0, 0, 99, 0, 0, 99, 1, 0, 56, 0, 5, 0, 0};
        int[] ints = {0, 99, 99, 99, 99, 99, 99, 99, 0, 0, 0, 0, 0, 0, 99, 99, 99, 0};
        for (int k = 0; k < entries.length; k++) {
            judge.due("a byte of " + entries[k], x.sheet(0, 1, entries[k], 0), bytes[k]);
            judge.due("an int of " + entries[k], x.sheet(2, 1, entries[k], 0), ints[k]);
        }
        int[] shortEntries = {0, 98, 99, 100, 255, 32767, 32768, 65535, 65536, 65543, 65536 + 200, -1, -32768, -32769, -65530, MOST, LEAST};
        int[] shorts = {0, 98, 99, 99, 99, 99, 0, 0, 0, 7, 99, 0, 0, 99, 6, 0, 0};
        for (int k = 0; k < shortEntries.length; k++) {
            judge.due("a short of " + shortEntries[k], x.sheet(1, 1, shortEntries[k], 0), shorts[k]);
        }
        judge.sentence("Promise 10: entries f, f + step, ..");
        judge.due("50, 30, 10", x.sheet(2, 3, 50, -20), 90);
        ages(x, "50, 30, 10", 50, 30, 10);
        judge.due("ints wrap around: MOST, LEAST, LEAST + 1", x.sheet(2, 3, MOST, 1), 99);
        ages(x, "ints wrap around", 99, 0, 0);
        judge.due("ints wrap around: 5, LEAST + 5, 5", x.sheet(2, 3, 5, LEAST), 10);
        ages(x, "ints wrap around, step LEAST", 5, 0, 5);
        judge.due("bytes: 250, 258, 266", x.sheet(0, 3, 250, 8), 12);
        ages(x, "bytes", 0, 2, 10);
        judge.due("shorts: 65530, 65540, 65550", x.sheet(1, 3, 65530, 10), 18);
        ages(x, "shorts", 0, 4, 14);
        judge.sentence("Promise 10: those behind it are 0: the sum of all that there are (entries beyond them are left aside)");
        judge.due("two of three", x.sheet(2, 2, 7, 1), 15);
        ages(x, "two of three", 7, 8, 0);
        judge.due("no entries", x.sheet(2, 0, 7, 1), 0);
        ages(x, "no entries", 0, 0, 0);
        judge.due("eight for three", x.sheet(2, 8, 7, 1), 24);
        ages(x, "eight for three", 7, 8, 9);
        judge.due("who comes later has no entry", Told.town(x, "50"), 1);
        ages(x, "who comes later", 7, 8, 9, 50);
        OneChairShort eight = Told.fresh("1;2;3;4;5;6;7;8");
        judge.due("eight for eight", eight.sheet(2, 8, 99, 0), 792);
        judge.due("the last one", eight.of(7, 0), 99);
        judge.due("seven for eight", eight.sheet(2, 7, 99, 0), 693);
        judge.due("the last one", eight.of(7, 0), 0);
    }

    private static void promise10Refused() {
        OneChairShort x = Told.fresh("11;12;13");
        judge.sentence("Promise 10: -2: n below 0 (of kinds 0 .. 2; nothing changes)");
        for (int kind = 0; kind <= 2; kind++) {
            judge.due("kind " + kind + ", n -1", x.sheet(kind, -1, 5, 5), -2);
            judge.due("kind " + kind + ", n LEAST", x.sheet(kind, LEAST, 5, 5), -2);
        }
        judge.sentence("Promise 10: NONE: another kind, n above 8 (these first)");
        int[] kinds = {-1, 4, LEAST, MOST};
        int[] lengths = {-1, 0, 3, 8, 9};
        for (int kind : kinds) {
            for (int n : lengths) {
                judge.due("kind " + kind + ", n " + n, x.sheet(kind, n, 5, 5), -1);
            }
        }
        for (int kind = 0; kind <= 3; kind++) {
            judge.due("kind " + kind + ", n 9", x.sheet(kind, 9, 5, 5), -1);
            judge.due("kind " + kind + ", n MOST", x.sheet(kind, MOST, 5, 5), -1);
        }
        ages(x, "nothing changed", 11, 12, 13);
        judge.sentence("Promise 10: -3: missing (all 0)");
        int[] missing = {0, 1, 8, -1, LEAST};
        for (int n : missing) {
            x.sheet(2, 3, 40, 1);
            judge.due("kind 3, n " + n, x.sheet(3, n, 5, 5), -3);
            ages(x, "kind 3, n " + n, 0, 0, 0);
        }
        judge.due("nobody", new OneChairShort().sheet(3, 0, 5, 5), -3);
        judge.due("nobody, 8 entries", new OneChairShort().sheet(1, 8, 5, 5), 0);
        judge.due("nobody, n below 0", new OneChairShort().sheet(1, -1, 5, 5), -2);
    }
}
