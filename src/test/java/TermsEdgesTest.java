/** Terms 1 and 2: each sentence that names a boundary case. */
public final class TermsEdgesTest {
    private static final Judge judge = new Judge();

    public static void main(String[] args) {
        howMany();
        atFirst();
        planWrapsAround();
        ruleSigns();
        ruleOrder();
        ruleNumbers();
        whoComes();
        nowhere();
        chairsFree();
        chairsFewer();
        whoAsks();
        greatest();
        counted();
        judge.finish("TermsEdgesTest");
    }

    private static int value(String rule) {
        OneChairShort x = Told.fresh("r1;37");
        int read = Told.rule(x, 0, rule);
        judge.due("rule(0) of " + rule, read, 0);
        return x.of(0, 9);
    }

    private static int fault(String rule) {
        return Told.rule(new OneChairShort(), 0, rule);
    }

    private static void howMany() {
        judge.sentence("ROOMS 0 .. (at most 4)");
        OneChairShort x = Told.fresh("r1;r2;r3;r4");
        judge.due("four are there", x.count(1), 4);
        judge.due("in(3)", x.in(3), 0);
        judge.due("in(4)", x.in(4), -1);
        judge.due("a fifth", Told.town(x, "r5"), -1);
        judge.due("four stay", x.count(1), 4);
        judge.sentence("CHAIRS 0 .. 8");
        OneChairShort chairs = Told.fresh("r0;r8");
        judge.due("r0 and r8", chairs.count(9), 8);
        judge.due("r9", Told.town(chairs, "r9"), -2);
        judge.due("chairs(0, 8)", chairs.chairs(0, 8), 0);
        judge.due("chairs(1, 0)", chairs.chairs(1, 0), 8);
        judge.due("chairs(0, 9)", chairs.chairs(0, 9), -1);
        judge.due("chairs(0, -1)", chairs.chairs(0, -1), -1);
        judge.due("8 and 0", chairs.count(9), 8);
        judge.sentence("PEOPLE 0 .. (at most 8)");
        OneChairShort people = Told.fresh("1;2;3;4;5;6;7;8");
        judge.due("eight are there", people.count(0), 8);
        judge.due("the last one", people.of(7, 0), 8);
        judge.noSuch("of(8, 0)", () -> people.of(8, 0));
        judge.due("a ninth", Told.town(people, "9"), -1);
        judge.due("eight stay", people.count(0), 8);
        judge.due("a room still comes", Told.town(people, "r1"), 1);
        judge.sentence("AGE 0 .. 99");
        OneChairShort ages = Told.fresh("0;00;9;09;99!");
        int[] due = {0, 0, 9, 9, 99};
        for (int k = 0; k < due.length; k++) {
            judge.due("AGE of " + k, ages.of(k, 0), due[k]);
        }
        judge.due("100", Told.town(ages, "100"), -3);
        judge.due("000", Told.town(ages, "000"), -3);
    }

    private static void atFirst() {
        judge.sentence("SEATED, STANDING, or nowhere is each (at first nowhere); s, t, a, b, CREDIT at first 0.");
        OneChairShort x = Told.fresh("r1;10;20!", "0");
        for (int person = 0; person < 2; person++) {
            judge.due("the ROOM of " + person, x.of(person, 2), -1);
            for (int what = 3; what <= 8; what++) {
                judge.due("of(" + person + ", " + what + ")", x.of(person, what), 0);
            }
        }
        judge.due("SEATED", x.count(3), 0);
        judge.due("STANDING", x.count(4), 0);
        judge.due("in ROOM 0", x.in(0), 0);
        x.quarters(3);
        Told.town(x, "30");
        judge.due("one who comes later: nowhere", x.of(2, 2), -1);
        for (int what = 3; what <= 8; what++) {
            judge.due("one who comes later: of(2, " + what + ")", x.of(2, what), 0);
        }
        judge.sentence("a PLAN (at first none: it is nowhere)");
        x.quarters(3);
        judge.due("no PLAN: nowhere", x.of(1, 2), -1);
        judge.due("no PLAN: stood", x.of(1, 7) + x.of(2, 7), 0);
        judge.sentence("NOW (at first 0)");
        judge.due("NOW", new OneChairShort().count(2), 0);
        judge.due("NOW, where nobody is", emptyAfter(200), 200);
    }

    private static int emptyAfter(int n) {
        OneChairShort x = new OneChairShort();
        x.quarters(n);
        return x.count(2);
    }

    private static void planWrapsAround() {
        judge.sentence("in QUARTER q its sign number q % (how many signs) holds");
        OneChairShort x = Told.fresh("r1;r1;r1;r1;10;20", "012-", "3");
        int[] where = {0, 1, 2, -1, 0, 1, 2, -1, 0};
        for (int q = 0; q < where.length; q++) {
            x.quarters(1);
            judge.due("012- in QUARTER " + q, x.of(0, 2), where[q]);
            judge.due("3 in QUARTER " + q, x.of(1, 2), 3);
        }
        Told.plan(x, 0, "01230");
        x.quarters(1);
        judge.due("told ahead of QUARTER 9: its sign number 4", x.of(0, 2), 0);
        x.quarters(1);
        judge.due("QUARTER 10: the first again", x.of(0, 2), 0);
        x.quarters(1);
        judge.due("QUARTER 11", x.of(0, 2), 1);
        OneChairShort long24 = Told.fresh("r1;r1;10", "0-----------------------".substring(0, 23) + "1");
        long24.quarters(24);
        judge.due("the 24th of 24 signs", long24.of(0, 2), 1);
        long24.quarters(1);
        judge.due("and again from the first on", long24.of(0, 2), 0);
        long24.quarters(200);
        judge.due("QUARTER 224 of 24 signs: number 8", long24.of(0, 2), -1);
        long24.quarters(15);
        judge.due("QUARTER 239 of 24 signs: number 23", long24.of(0, 2), 1);
        long24.undo();
        Told.plan(long24, 0, "----01-");
        long24.quarters(1);
        judge.due("undone: QUARTER 225 of 7 signs: number 1", long24.of(0, 2), -1);
        long24.quarters(3);
        judge.due("QUARTER 228 of 7 signs: number 4", long24.of(0, 2), 0);
    }

    private static void ruleSigns() {
        judge.sentence("texts of at most 40 signs");
        StringBuilder all = new StringBuilder();
        for (int k = 0; k < 39; k++) {
            all.append('-');
        }
        judge.due("39 - and 1", value(all + "1"), -1);
        judge.due("39 - and 12: 41 signs", fault(all + "12"), -41);
        judge.due("40 -: its end too early", fault(all + "-"), -41);
        judge.due("41 -: the first 40 could go on", fault(all + "--"), -41);
        judge.due("39 - and x: a sign ahead of the 41st", fault(all + "xx"), -40);
        judge.sentence("not one behind the other");
        judge.due("1<2<3", fault("1<2<3"), -4);
        judge.due("1>2=3", fault("1>2=3"), -4);
        judge.due("1=2>3", fault("1=2>3"), -4);
        judge.due("1+1<2+1=3", fault("1+1<2+1=3"), -8);
        judge.due("1<(2)<3", fault("1<(2)<3"), -6);
        judge.due("(1<2)<3<4", fault("(1<2)<3<4"), -8);
        judge.due("(1<2<3)", fault("(1<2<3)"), -5);
        judge.due("(1)<2=3", fault("(1)<2=3"), -6);
        judge.due("(1<2)<3", value("(1<2)<3"), 1);
        judge.due("3<(1<2)", value("3<(1<2)"), 0);
        judge.due("(1<2)=(3>2)", value("(1<2)=(3>2)"), 1);
        judge.due("(1<2)+(1<2)+(1<2)", value("(1<2)+(1<2)+(1<2)"), 3);
        judge.sentence("an EXPRESSION in ( ) (at most 4 in one another)");
        judge.due("four", value("((((5))))"), 5);
        judge.due("four, and four again", value("((((5))))+((((6))))"), 11);
        judge.due("four, each opened ahead of a sign", value("-(1-(2-(3-(4))))"), 2);
        judge.due("five", fault("(((((5)))))"), -5);
        judge.due("five, behind signs", fault("1+(1+(1+(1+(1+(1"), -15);
        judge.due("four, one closed, one opened", value("((((1))+(2))+3)"), 6);
        judge.due("four, one closed, two opened", fault("((((1)+((2))))"), -9);
        judge.due("( ) with nothing", fault("()"), -2);
        judge.due("closed too often", fault("(1))"), -4);
        judge.due("closed too seldom", fault("((1)"), -5);
    }

    private static void ruleOrder() {
        judge.sentence("bind least (two; 1 or 0");
        int[] due = {1, 0, 0, 0, 0, 1, 0, 1, 0};
        String[] rules = {"1<2", "2<2", "3<2", "1>2", "2>2", "3>2", "1=2", "2=2", "3=2"};
        for (int k = 0; k < rules.length; k++) {
            judge.due(rules[k], value(rules[k]), due[k]);
        }
        judge.due("1+1=2 is (1+1)=2", value("1+1=2"), 1);
        judge.due("2=1+1 is 2=(1+1)", value("2=1+1"), 1);
        judge.due("5<2*3 is 5<(2*3)", value("5<2*3"), 1);
        judge.due("-1<0 is (-1)<0", value("-1<0"), 1);
        judge.sentence("then + - (from the left)");
        judge.due("9-5-3", value("9-5-3"), 1);
        judge.due("9-5+3", value("9-5+3"), 7);
        judge.due("9+5-3", value("9+5-3"), 11);
        judge.due("9-2*3", value("9-2*3"), 3);
        judge.due("2*3-9", value("2*3-9"), -3);
        judge.sentence("then * / (from the left");
        judge.due("100/5/2", value("100/5/2"), 10);
        judge.due("100/5*2", value("100/5*2"), 40);
        judge.due("7*5/2", value("7*5/2"), 17);
        judge.due("7/2*5", value("7/2*5"), 15);
        judge.sentence("then - ahead of a thing (any many)");
        judge.due("-5", value("-5"), -5);
        judge.due("--5", value("--5"), 5);
        judge.due("-----5", value("-----5"), -5);
        judge.due("3--5", value("3--5"), 8);
        judge.due("3---5", value("3---5"), -2);
        judge.due("-3-5 is (-3)-5", value("-3-5"), -8);
        judge.due("-7/2 is (-7)/2", value("-7/2"), -3);
        judge.due("2*--3", value("2*--3"), 6);
        judge.due("-(2-5)", value("-(2-5)"), 3);
        judge.due("--(2-5)*2", value("--(2-5)*2"), -6);
        judge.due("- ahead of nothing", fault("-"), -2);
        judge.due("- ahead of *", fault("-*5"), -2);
        judge.due("+ ahead of a thing", fault("+5"), -1);
        judge.due("+ behind -", fault("5-+5"), -3);
    }

    private static void ruleNumbers() {
        judge.sentence("a NUMBER of 1 to 3 digits");
        judge.due("0", value("0"), 0);
        judge.due("000", value("000"), 0);
        judge.due("009", value("009"), 9);
        judge.due("999", value("999"), 999);
        judge.due("0000", fault("0000"), -4);
        judge.due("1000", fault("1000"), -4);
        judge.due("1+1000", fault("1+1000"), -6);
        judge.due("(999)9", fault("(999)9"), -6);
        judge.due("9g", fault("9g"), -2);
        judge.due("g9", fault("g9"), -2);
        judge.sentence("by 0: 0; cut to 0");
        judge.due("5/0", value("5/0"), 0);
        judge.due("-5/0", value("-5/0"), 0);
        judge.due("0/0", value("0/0"), 0);
        judge.due("0/5", value("0/5"), 0);
        judge.due("5/(3-3)+7", value("5/(3-3)+7"), 7);
        judge.due("7/2", value("7/2"), 3);
        judge.due("(0-7)/2", value("(0-7)/2"), -3);
        judge.due("7/(0-2)", value("7/(0-2)"), -3);
        judge.due("-7/-2", value("-7/-2"), 3);
        judge.due("-1/2", value("-1/2"), 0);
        judge.sentence("As ints.");
        judge.due("512*512*512*16: 2^31", value("512*512*512*16"), Integer.MIN_VALUE);
        judge.due("512*512*512*16-1", value("512*512*512*16-1"), Integer.MAX_VALUE);
        judge.due("-(512*512*512*16)", value("-(512*512*512*16)"), Integer.MIN_VALUE);
        judge.due("512*512*512*16/-1", value("512*512*512*16/-1"), Integer.MIN_VALUE);
        judge.due("512*512*512*16-1+1", value("512*512*512*16-1+1"), Integer.MIN_VALUE);
        judge.due("512*512*512*32", value("512*512*512*32"), 0);
        judge.due("512*512*512*16<0", value("512*512*512*16<0"), 1);
        judge.due("999*999*999*9/9 wraps ahead of /", value("999*999*999*9/9"), 999 * 999 * 999 * 9 / 9);
        judge.sentence("RULE 0 is t, RULE 1 is s, as long as there is none.");
        OneChairShort x = Told.fresh("r1;37!;40!", "0", "0");
        x.quarters(3);
        judge.due("RULE 0 is t", x.of(1, 9), 3);
        judge.due("RULE 1 is s", x.of(0, 10), 3);
        judge.due("RULE 0 is not s", x.of(0, 9), 0);
        judge.due("RULE 1 is not t", x.of(1, 10), 0);
        Told.rule(x, 0, "g*10+k+i");
        Told.rule(x, 1, "g");
        judge.due("g*10+k+i", x.of(1, 9), 402);
        judge.due("an empty one: none", x.rule(0), 0);
        judge.due("RULE 0 is t again", x.of(1, 9), 3);
        judge.due("RULE 1 stays", x.of(1, 10), 40);
        judge.due("an empty one: none", x.rule(1), 0);
        judge.due("RULE 1 is s again", x.of(0, 10), 3);
    }

    private static void whoComes() {
        judge.sentence("STANDS there (at first; s and t stay as they are till the end of the QUARTER)");
        // 0 has no chair in room 1; 1 comes there from room 0, having sat, and sits first by RULE 0: 0 asks it.
        OneChairShort x = Told.fresh("r1;r0;10;20", "1", "01");
        Told.rule(x, 0, "i");
        x.quarters(1);
        judge.due("1 sat in room 0", x.of(1, 4), 1);
        x.chairs(1, 1);
        judge.due("who has sat elsewhere can be asked", x.quarters(1), 1);
        judge.due("1 gave", x.gave(1, 0), 1);
        judge.due("0 sits", x.count(3), 1);
        judge.due("s of 1 ends", x.of(1, 4), 0);
        judge.due("t of 1", x.of(1, 5), 1);
        judge.due("t of 0 ends", x.of(0, 5), 0);
        // Stays in its room: sits on, with the chair.
        x.quarters(1);
        judge.due("1 goes back to room 0 and sits there", x.count(3), 3);
        // 0 has stood in room 1 and comes to room 0, where 1 sits: it asks at once.
        OneChairShort y = Told.fresh("r1;r0;10;20", "10", "0");
        y.quarters(1);
        judge.due("who has stood elsewhere asks at once", y.quarters(1), 1);
        judge.due("1 gave to 0", y.gave(1, 0), 1);
        // Who comes does not keep a chair of the room it came from.
        OneChairShort z = Told.fresh("r1;r1;10;20;30", "01", "1", "1");
        z.sick(1, true);
        z.sick(2, true);
        z.quarters(1);
        judge.due("0 sits in room 0, 1 in room 1", z.count(3), 3);
        z.quarters(1);
        judge.due("0 comes to room 1 and STANDS", z.count(3), 2);
        judge.due("0 STANDS: t", z.of(0, 5), 1);
        judge.due("0 STANDS: s", z.of(0, 4), 0);
        judge.sentence("or was nowhere, STANDS there");
        OneChairShort back = Told.fresh("r1;10;20!", "00-0", "--0");
        back.quarters(2);
        judge.due("0 sits", back.count(3), 1);
        back.quarters(1);
        judge.due("1 came as 0 was away", back.count(3), 2);
        back.quarters(1);
        judge.due("0 comes back and STANDS, 1 is away", back.count(3), 1);
        OneChairShort same = Told.fresh("r2;10;20", "0-0", "0");
        same.quarters(3);
        judge.due("back in the same room from nowhere, s begins anew", same.of(0, 4), 1);
    }

    private static void nowhere() {
        judge.sentence("who is nowhere is neither");
        OneChairShort x = Told.fresh("r1;10;20", "00-", "00-");
        x.quarters(2);
        judge.due("CREDIT of who asked", x.of(1, 8), -1);
        x.quarters(1);
        judge.due("nobody sits", x.count(3), 0);
        judge.due("nobody STANDS", x.count(4), 0);
        judge.due("nobody is in the room", x.in(0), 0);
        judge.due("of(0, 3)", x.of(0, 3), 0);
        judge.sentence("of who is nowhere s and t are 0");
        judge.due("s", x.of(0, 4) + x.of(1, 4), 0);
        judge.due("t", x.of(0, 5) + x.of(1, 5), 0);
        judge.due("a stays", x.of(0, 6) * 10 + x.of(1, 6), 11);
        judge.due("b stays", x.of(0, 7) * 10 + x.of(1, 7), 11);
        judge.due("CREDIT stays", x.of(0, 8), 1);
        judge.due("nobody asks who came anew", x.quarters(1), 0);
        judge.due("the first sits", x.count(3), 1);
        judge.due("t of 1 begins anew", x.of(1, 5), 1);
    }

    private static void chairsFree() {
        judge.sentence("as long as fewer sit there than there are CHAIRS, and somebody STANDS");
        OneChairShort x = Told.fresh("r0;10;20;30", "0", "0", "0");
        x.quarters(1);
        judge.due("no CHAIRS: nobody sits", x.count(3), 0);
        x.chairs(0, 2);
        x.quarters(1);
        judge.due("two CHAIRS: two sit", x.count(3), 3);
        judge.due("who takes a free chair asks nobody", x.of(0, 8) + x.of(1, 8), 0);
        x.chairs(0, 8);
        x.quarters(1);
        judge.due("more CHAIRS than PEOPLE: all sit", x.count(3), 7);
        judge.due("nobody STANDS", x.count(4), 0);
        x.chairs(0, 3);
        judge.due("as many CHAIRS as PEOPLE: nobody asks", x.quarters(5), 0);
        judge.due("all sit", x.count(3), 7);
        // The chair of one who goes is taken by who stood longest, not by asking.
        OneChairShort y = Told.fresh("r1;r1;10;20;30", "001", "0", "-0");
        y.sick(0, true);
        y.quarters(2);
        judge.due("0 sits, 1 and 2 stand", y.count(3), 1);
        judge.due("the chair is free: nobody asks", y.quarters(1), 0);
        judge.due("1 stood longer than 2", y.of(1, 3), 1);
        judge.due("0 sits in room 1", y.of(0, 3), 1);
    }

    private static void chairsFewer() {
        judge.sentence("were CHAIRS made fewer, as many of those that sit there as there are too many stand up first");
        OneChairShort x = Told.fresh("r4;10;20;30;40", "0", "-0000000", "--000000", "---00000");
        x.quarters(4);
        judge.due("s of them: 4 3 2 1", x.of(0, 4) * 1000 + x.of(1, 4) * 100 + x.of(2, 4) * 10 + x.of(3, 4), 4321);
        x.chairs(0, 2);
        judge.due("who stood up has not stood: nobody asks", x.quarters(1), 0);
        judge.due("each time the one with the greatest RULE 1: 0 and 1", x.count(4), 3);
        judge.due("t of who stood up", x.of(0, 5), 1);
        judge.due("s of who stood up", x.of(0, 4), 0);
        judge.due("a of who stood up", x.of(0, 6), 4);
        judge.due("they did not give", x.of(0, 8), 0);
        judge.due("then they ask: 0 asks 2", x.quarters(1), 1);
        judge.due("2 gave to 0", x.gave(2, 0), 1);
        x.chairs(0, 0);
        judge.due("no CHAIRS: nobody asks", x.quarters(1), 0);
        judge.due("no CHAIRS: all STAND", x.count(4), 15);
        judge.sentence("of equal ones the first, also who is SICK");
        OneChairShort sick = Told.fresh("r3;10!;20!;30!", "0", "0", "0");
        sick.quarters(2);
        sick.chairs(0, 1);
        sick.quarters(1);
        judge.due("0 and 1 stand up, SICK as they are", sick.count(4), 3);
        Told.rule(sick, 1, "k");
        sick.chairs(0, 3);
        sick.sick(0, false);
        sick.sick(1, false);
        sick.quarters(1);
        sick.chairs(0, 2);
        sick.quarters(1);
        judge.due("RULE 1 is k: 2 stands up", sick.count(4), 4);
        // 0 stood already; 1 and 2 sit on one chair too many: 1 stands up, then 0 asks 2.
        OneChairShort asks = Told.fresh("r2;10;20;30", "-00", "0", "0");
        asks.sick(1, true);
        asks.sick(2, true);
        asks.quarters(2);
        judge.due("1 and 2 sit", asks.count(3), 6);
        asks.sick(2, false);
        asks.chairs(0, 1);
        judge.due("who stood already asks who is left", asks.quarters(1), 1);
        judge.due("2 gave to 0", asks.gave(2, 0), 1);
        judge.due("0 sits alone", asks.count(3), 1);
        // One chair less, and one who sits goes: nobody need stand up.
        OneChairShort goes = Told.fresh("r2;10;20", "00-", "0");
        goes.quarters(2);
        goes.chairs(0, 1);
        goes.quarters(1);
        judge.due("one went: the other one sits on", goes.count(3), 2);
        judge.due("one went: s of the other one", goes.of(1, 4), 3);
    }

    private static void whoAsks() {
        judge.sentence("who STOOD (t is 1 or more)");
        OneChairShort x = Told.fresh("r1;10;20", "0", "-00");
        judge.due("1 comes in quarter 1, not having stood", x.quarters(2), 0);
        judge.due("it stood one: it asks", x.quarters(1), 1);
        judge.sentence("who SAT (s is 1 or more)");
        // 0 stood in room 1; it comes to room 0 with 1, who takes the chair by RULE 0, but has not sat.
        OneChairShort y = Told.fresh("r1;r0;10;20", "100", "-00");
        Told.rule(y, 0, "i");
        judge.due("who has just sat down is not asked", y.quarters(2), 0);
        judge.due("1 sits", y.count(3), 2);
        judge.due("it sat one: it is asked", y.quarters(1), 1);
        judge.sentence("and is not SICK");
        OneChairShort z = Told.fresh("r2;10!;20;30", "0", "0", "0");
        judge.due("1 is asked, though 0 is the first", z.quarters(2), 1);
        judge.due("1 gave to 2", z.gave(1, 2), 1);
        z.sick(2, true);
        judge.due("all who sit are SICK", z.quarters(3), 0);
        z.sick(1, true);
        z.sick(2, false);
        judge.due("a SICK one asks", z.quarters(1), 1);
        judge.due("2 gave to 1", z.gave(2, 1), 1);
        judge.sentence("ASKS the one of the second with the greatest RULE 1 (of equal ones the first each): they change");
        OneChairShort once = Told.fresh("r2;10;20;30;40", "0", "0", "0", "0");
        judge.due("one asks in a ROOM, though two stand and two sit", once.quarters(2), 1);
        judge.due("the first asks the first", once.gave(0, 2), 1);
        judge.due("1 and 2 sit", once.count(3), 6);
        OneChairShort rooms = Told.fresh("r1;r1;r1;r1;1;2;3;4;5;6;7;8", "0", "0", "1", "1", "2", "2", "3", "3");
        judge.due("one in each ROOM", rooms.quarters(2), 4);
        judge.due("the others sit", rooms.count(3), 0b10101010);
        judge.sentence("CREDIT of who gave is 1 more, of who asked 1 less");
        for (int k = 0; k < 8; k++) {
            judge.due("CREDIT of " + k, rooms.of(k, 8), k % 2 == 0 ? 1 : -1);
        }
    }

    private static void greatest() {
        judge.sentence("the one with the greatest RULE 0 (of equal ones the first) sits down");
        OneChairShort x = Told.fresh("r1;50;10;10", "0", "0", "0");
        Told.rule(x, 0, "0-g");
        x.quarters(1);
        judge.due("all below 0: the first of the two of -10", x.count(3), 2);
        // 2^31 as an int for 0, 1 for 1: their difference is no int.
        OneChairShort far = Told.fresh("r1;10;20", "0", "0");
        Told.rule(far, 0, "512*512*512*16*(i=0)+i");
        far.quarters(1);
        judge.due("the least int against 1", far.count(3), 2);
        OneChairShort least = Told.fresh("r1;10;20", "0", "0");
        Told.rule(least, 0, "512*512*512*16");
        least.quarters(1);
        judge.due("all the least int: the first", least.count(3), 1);
        judge.sentence("each time the one with the greatest RULE 1");
        OneChairShort up = Told.fresh("r3;10;20;30", "0", "0", "0");
        Told.rule(up, 1, "512*512*512*16*(i=0)+i");
        up.quarters(1);
        up.chairs(0, 1);
        up.quarters(1);
        judge.due("2 and 1 stand up, 0 stays", up.count(3), 1);
        OneChairShort asked = Told.fresh("r2;10;20;30", "0", "0", "0");
        Told.rule(asked, 1, "0-9-g");
        asked.quarters(2);
        judge.due("all below 0: 0 is asked", asked.gave(0, 2), 1);
    }

    private static void counted() {
        judge.sentence("Then of all who sit s and a are 1 more, t is 0; of all who STAND t and b are 1 more, s is 0");
        OneChairShort x = Told.fresh("r1;10;20", "0", "0");
        int[][] due = {{1, 0, 1, 0}, {0, 1, 1, 1}, {1, 0, 2, 1}, {0, 1, 2, 2}};
        for (int q = 0; q < due.length; q++) {
            x.quarters(1);
            for (int k = 0; k < 4; k++) {
                judge.due("0 behind QUARTER " + q + ": of(0, " + (4 + k) + ")", x.of(0, 4 + k), due[q][k]);
            }
        }
        x.sick(1, true);
        x.quarters(200);
        judge.due("s of 1", x.of(1, 4), 201);
        judge.due("t of 0", x.of(0, 5), 201);
        judge.due("a of 1", x.of(1, 6), 202);
        judge.due("b of 0", x.of(0, 7), 202);
        judge.sentence("NOW is 1 more");
        judge.due("NOW", x.count(2), 204);
    }
}
