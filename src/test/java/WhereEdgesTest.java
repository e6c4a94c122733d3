/** Promises 24 to 32: each sentence that names a boundary case. */
public final class WhereEdgesTest {
    private static final Judge judge = new Judge();
    private static final int LEAST = Integer.MIN_VALUE;
    private static final int MOST = Integer.MAX_VALUE;

    public static void main(String[] args) {
        promise24();
        promise24Always();
        promise24Range();
        promise25();
        promise25Range();
        promise26();
        promise27();
        promise28();
        promise29();
        promise30();
        promise31();
        promise32();
        judge.finish("WhereEdgesTest");
    }

    private static String many(String signs, int times) {
        StringBuilder all = new StringBuilder();
        for (int k = 0; k < times; k++) {
            all.append(signs);
        }
        return all.toString();
    }

    private static void promise24() {
        judge.sentence("Promise 24: whatever its PLAN is (always somewhere): how many; the ROW: ROOMS: of as few the least row");
        OneChairShort last = Told.fresh("r0;r0;r0;r1;10", "0");
        judge.due("a chair in the last ROOM alone", last.least(0, 5), 0);
        judge.row("a chair in the last ROOM alone", last, 3, 3, 3, 3, 3);
        judge.due("its PLAN stays", last.will(0, 30), (1 << 30) - 1);
        OneChairShort none = Told.fresh("r0;r0;r0;r0;10", "-");
        judge.due("no chairs: nowhere would be better, but it is no ROOM", none.least(0, 5), 5);
        judge.row("no chairs", none, 0, 0, 0, 0, 0);
        // 0 is first in room 0, then away; it comes back not having stood and can't ask 1, who sits there then.
        OneChairShort stays = Told.fresh("r1;r1;10!;20", "01", "-");
        judge.due("first in ROOM 1, then in 0", stays.least(1, 5), 0);
        judge.row("first in ROOM 1, then in 0", stays, 1, 0, 0, 0, 0);
        stays.quarters(1);
        judge.due("from QUARTER 1 on", stays.least(1, 5), 0);
        judge.row("from QUARTER 1 on", stays, 0, 0, 0, 0, 0);
        // Who sits in the one chair does not go: 1 stands, asks, is asked, asks.
        OneChairShort turns = Told.fresh("r1;10;20", "0", "-");
        judge.due("by turns", turns.least(1, 5), 3);
        judge.row("by turns", turns, 0, 0, 0, 0, 0);
        // 0 goes away for each second QUARTER: then 1 sits, and 0 can't ask as it has not stood.
        OneChairShort away = Told.fresh("r1;r0;10;20", "0-", "1");
        judge.due("only the first", away.least(1, 4), 1);
        judge.row("only the first", away, 0, 0, 0, 0);
    }

    /** Who gives its CHAIR falls behind by this RULE 0: it is better to go and stand elsewhere for a QUARTER, if there is an elsewhere. */
    private static void promise24Always() {
        judge.sentence("Promise 24: if it went to any ROOM in each of them, whatever its PLAN is (always somewhere)");
        OneChairShort one = Told.fresh("r1;10;20;30", "0", "0", "0");
        Told.rule(one, 0, "-c");
        one.quarters(1);
        judge.due("one ROOM: it is asked, and then the others are ahead of it", one.least(0, 3), 3);
        judge.row("one ROOM", one, 0, 0, 0);
        OneChairShort two = Told.fresh("r1;r0;10;20;30", "0", "0", "0");
        Told.rule(two, 0, "-c");
        two.quarters(1);
        judge.due("two ROOMS: it goes, comes back and asks", two.least(0, 3), 2);
        judge.row("two ROOMS", two, 1, 0, 0);
    }

    private static void promise24Range() {
        judge.sentence("Promise 24: -2: no ROOMS; NONE: others");
        OneChairShort x = Told.fresh("r0;r1;10;20", "0", "0");
        judge.due("least(0, 0)", x.least(0, 0), 0);
        judge.row("least(0, 0)", x);
        judge.due("least(1, 5)", x.least(1, 5), 0);
        judge.row("least(1, 5)", x, 1, 1, 1, 1, 1);
        int[][] wrong = {{0, 6}, {0, -1}, {0, LEAST}, {0, MOST}, {2, 1}, {-1, 1}, {8, 1}, {LEAST, 1}, {MOST, 1}, {2, 6}};
        for (int[] one : wrong) {
            judge.due("least(" + one[0] + ", " + one[1] + ")", x.least(one[0], one[1]), -1);
        }
        judge.due("the ROW stays", x.count(7), 5);
        OneChairShort roomless = Told.fresh("10");
        judge.due("no ROOMS: least(0, 0)", roomless.least(0, 0), -2);
        judge.due("no ROOMS: least(0, 5)", roomless.least(0, 5), -2);
        judge.due("no ROOMS: least(1, 5)", roomless.least(1, 5), -1);
    }

    private static void promise25() {
        judge.sentence("Promise 25: the ROW: ROOMS: of the first and of the other one, QUARTER by QUARTER: of as many the least row");
        // 2 and 3 have the chairs of room 1. 1 has stood and asks 2 at once; 0 stands first, where it may, and then asks 3.
        OneChairShort x = Told.fresh("r0;r2;10;20;30;40", "-", "0", "1", "1");
        x.quarters(2);
        judge.due("together(0, 1, 2)", x.together(0, 1, 2), 1);
        judge.row("together(0, 1, 2): 0 waits in ROOM 0", x, 0, 1, 1, 1);
        judge.due("together(1, 0, 2)", x.together(1, 0, 2), 1);
        judge.row("together(1, 0, 2): the rooms of 1 ahead", x, 1, 0, 1, 1);
        judge.due("together(0, 1, 1)", x.together(0, 1, 1), 0);
        judge.row("together(0, 1, 1): none is as good as any", x, 0, 0);
        judge.due("their PLANS stay", x.will(1, 5), 31);
        OneChairShort last = Told.fresh("r0;r1;r1;r2;10;20", "0", "1");
        judge.due("the last ROOM alone has two chairs", last.together(0, 1, 3), 3);
        judge.row("the last ROOM alone has two chairs", last, 3, 3, 3, 3, 3, 3);
        OneChairShort single = Told.fresh("r1;r1;r1;r1;10;20", "0", "1");
        judge.due("both sit, but never in one ROOM", single.together(0, 1, 3), 0);
        judge.row("both sit, but never in one ROOM", single, 0, 0, 0, 0, 0, 0);
    }

    private static void promise25Range() {
        judge.sentence("Promise 25: the next n QUARTERS (0 .. 3) in which two unlike ones would both sit .. -2: no ROOMS; NONE: others.");
        OneChairShort x = Told.fresh("r2;10;20;30", "0", "0", "-");
        judge.due("together(0, 1, 0)", x.together(0, 1, 0), 0);
        judge.row("together(0, 1, 0)", x);
        // 0 and 1 sit; 2 asks 0; 0 asks 1, who sat longer than 2.
        judge.due("together(2, 0, 3): 1 is there, too", x.together(2, 0, 3), 1);
        judge.row("together(2, 0, 3)", x, 0, 0, 0, 0, 0, 0);
        judge.due("together(2, 0, 2)", x.together(2, 0, 2), 0);
        judge.row("together(2, 0, 2)", x, 0, 0, 0, 0);
        int[][] wrong = {{0, 1, 4}, {0, 1, -1}, {0, 1, LEAST}, {0, 1, MOST}, {0, 0, 1}, {2, 2, 0}, {0, 3, 1}, {3, 0, 1}, {-1, 0, 1}, {0, -1, 1},
            {LEAST, MOST, 1}};
        for (int[] one : wrong) {
            judge.due("together(" + one[0] + ", " + one[1] + ", " + one[2] + ")", x.together(one[0], one[1], one[2]), -1);
        }
        judge.due("the ROW stays", x.count(7), 4);
        OneChairShort roomless = Told.fresh("10;20");
        judge.due("no ROOMS: together(0, 1, 0)", roomless.together(0, 1, 0), -2);
        judge.due("no ROOMS: together(0, 1, 3)", roomless.together(0, 1, 3), -2);
        judge.due("no ROOMS: together(0, 0, 3)", roomless.together(0, 0, 3), -1);
    }

    /** In quarter 199 both are in room 0, with two chairs, and till then never: 199 is 19 of 20 signs, and 9 of 19. */
    private static OneChairShort meetIn199() {
        return Told.fresh("r2;10;20;30", many("-", 19) + "0", many("-", 9) + "0" + many("-", 9), "-");
    }

    /** In quarter 200: 0 of 20 signs, and 10 of 19. */
    private static OneChairShort meetIn200() {
        return Told.fresh("r2;10;20;30", "0" + many("-", 19), many("-", 10) + "0" + many("-", 8), "-");
    }

    private static void promise26() {
        judge.sentence("Promise 26: After how many QUARTERS (1 .. 200) first two unlike ones both sit in one ROOM, by their PLANS. -2: not within 200");
        judge.due("after 200", meetIn199().both(0, 1), 200);
        OneChairShort x = meetIn200();
        judge.due("after 201", x.both(0, 1), -2);
        x.quarters(1);
        judge.due("after 200 then", x.both(1, 0), 200);
        x.quarters(199);
        judge.due("after 1", x.both(0, 1), 1);
        x.quarters(1);
        judge.due("both sit now: that is after 0", x.both(0, 1), -2);
        OneChairShort one = Told.fresh("r1;r1;10;20;30", "0", "0", "1");
        judge.due("one sits, one stands", one.both(0, 1), -2);
        judge.due("both sit, in unlike ROOMS", one.both(0, 2), -2);
        judge.due("nowhere both", Told.fresh("r2;10;20").both(0, 1), -2);
        judge.sentence("Promise 26: NONE: others");
        int[][] wrong = {{0, 0}, {2, 2}, {0, 3}, {3, 0}, {-1, 0}, {0, -1}, {LEAST, 0}, {0, MOST}, {3, 4}};
        for (int[] pair : wrong) {
            judge.due("both(" + pair[0] + ", " + pair[1] + ")", one.both(pair[0], pair[1]), -1);
        }
    }

    private static void promise27() {
        judge.sentence("Promise 27: In how many of the next n QUARTERS (0 .. 200) they do. NONE: others.");
        OneChairShort x = meetIn199();
        judge.due("often(0, 1, 0)", x.often(0, 1, 0), 0);
        judge.due("often(0, 1, 199)", x.often(0, 1, 199), 0);
        judge.due("often(0, 1, 200)", x.often(0, 1, 200), 1);
        judge.due("often(1, 0, 200)", x.often(1, 0, 200), 1);
        x.quarters(200);
        judge.due("both sit now: that is none of the next", x.often(0, 1, 0), 0);
        OneChairShort ever = Told.fresh("r2;10;20", "0", "0");
        judge.due("ever", ever.often(0, 1, 200), 200);
        int[][] wrong = {{0, 1, -1}, {0, 1, 201}, {0, 1, LEAST}, {0, 1, MOST}, {0, 0, 5}, {1, 1, 0}, {0, 2, 5}, {2, 0, 5}, {-1, 0, 5}, {0, -1, 5}};
        for (int[] one : wrong) {
            judge.due("often(" + one[0] + ", " + one[1] + ", " + one[2] + ")", ever.often(one[0], one[1], one[2]), -1);
        }
        OneChairShort one = Told.fresh("r1;r1;10;20;30", "0", "0", "1");
        judge.due("one sits, one stands", one.often(0, 1, 200), 0);
        judge.due("both sit, in unlike ROOMS", one.often(0, 2, 200), 0);
    }

    private static void promise28() {
        judge.sentence("Promise 28: PLANS of two unlike ones are exchanged: true. Refused: others. (This changes them.)");
        OneChairShort x = Told.fresh("r0;r0;10;20;30!", many("0", 24), "1-1");
        judge.due("24 signs and 3", x.swap(0, 1), true);
        judge.due("0 has three signs", x.will(0, 7), 0b1101101);
        judge.due("1 has 24", x.will(1, 30), (1 << 30) - 1);
        judge.due("and none", x.swap(2, 1), true);
        judge.due("1 has none", x.delay(1, 5), -2);
        judge.due("2 has 24", x.will(2, 30), (1 << 30) - 1);
        judge.due("none and none", Told.fresh("5;6").swap(0, 1), true);
        x.quarters(3);
        judge.due("nobody's place changes till a QUARTER goes by", x.swap(0, 2), true);
        judge.due("0 is where it was", x.of(0, 2), 1);
        judge.due("it can be undone still", x.undo(), 0);
        judge.due("undo() leaves PLANS", x.will(0, 30), (1 << 30) - 1);
        judge.due("SICK stays", x.of(2, 1), 1);
        int[][] wrong = {{0, 0}, {2, 2}, {0, 3}, {3, 0}, {-1, 0}, {0, -1}, {LEAST, 0}, {0, MOST}, {3, 4}};
        for (int[] one : wrong) {
            judge.due("swap(" + one[0] + ", " + one[1] + ")", x.swap(one[0], one[1]), false);
        }
    }

    private static void promise29() {
        judge.sentence("Promise 29: in the next n (0 .. 100); of equal ones the first pair (the lesser first): how many; the ROW: both, how many less");
        OneChairShort x = Told.fresh("r0;r1;10;20;30", "0-", "1", "1");
        judge.due("exchange(0)", x.exchange(0), 0);
        judge.row("exchange(0)", x, 0, 1, 0);
        judge.due("exchange(1)", x.exchange(1), 2);
        judge.row("exchange(1)", x, 0, 1, 0);
        judge.due("exchange(100)", x.exchange(100), 150);
        judge.row("exchange(100)", x, 0, 1, 0);
        x.quarters(1);
        judge.due("exchange(1) from QUARTER 1 on", x.exchange(1), 1);
        judge.row("exchange(1) from QUARTER 1 on", x, 0, 1, 0);
        judge.due("PLANS stay", x.will(0, 4), 0b1010);
        judge.sentence("Promise 29: -2: fewer than two PEOPLE; NONE: another n");
        int[] wrong = {-1, 101, LEAST, MOST};
        for (int n : wrong) {
            judge.due("exchange(" + n + ")", x.exchange(n), -1);
            judge.due("one alone: exchange(" + n + ")", Told.fresh("r1;5").exchange(n), -1);
        }
        judge.row("the ROW stays", x, 0, 1, 0);
        judge.due("two", Told.fresh("r0;5;6", "0", "0").exchange(7), 14);
        judge.due("one", Told.fresh("r0;5", "0").exchange(7), -2);
        judge.due("nobody", Told.fresh("r0").exchange(7), -2);
    }

    private static void promise30() {
        judge.sentence("Promise 30: if its PLAN was begun k signs further on (0 .. how many signs less 1: in QUARTER q the sign number (q + k) % how many)");
        OneChairShort x = Told.fresh("r0;10;20", many("0", 23) + "-", "0");
        judge.due("delay(0, 1)", x.delay(0, 1), 0);
        judge.row("the last k of all", x, 23);
        judge.due("delay(0, 24)", x.delay(0, 24), 23);
        judge.row("all as good: the first", x, 0);
        judge.due("delay(0, 100): five of - , not four", x.delay(0, 100), 95);
        judge.row("delay(0, 100)", x, 20);
        judge.due("delay(1, 100): a PLAN of one sign", x.delay(1, 100), 100);
        judge.row("a PLAN of one sign", x, 0);
        x.quarters(1);
        judge.due("in QUARTER 1", x.delay(0, 1), 0);
        judge.row("in QUARTER 1", x, 22);
        x.quarters(22);
        judge.due("in QUARTER 23", x.delay(0, 1), 0);
        judge.row("in QUARTER 23", x, 0);
        x.quarters(1);
        judge.due("in QUARTER 24", x.delay(0, 1), 0);
        judge.row("in QUARTER 24: as in 0", x, 23);
        judge.due("its PLAN stays", x.will(0, 30), (1 << 30) - 1 - (1 << 23));
        judge.due("delay(0, 0)", x.delay(0, 0), 0);
        judge.row("delay(0, 0)", x, 0);
        judge.sentence("Promise 30: -2: it has no PLAN; NONE: others");
        int[][] wrong = {{0, -1}, {0, 101}, {0, LEAST}, {0, MOST}, {2, 5}, {-1, 5}, {8, 5}, {LEAST, 5}, {MOST, 5}};
        for (int[] one : wrong) {
            judge.due("delay(" + one[0] + ", " + one[1] + ")", x.delay(one[0], one[1]), -1);
        }
        judge.row("the ROW stays", x, 0);
        x.plan(0);
        judge.due("no PLAN any more", x.delay(0, 5), -2);
        judge.due("no PLAN, n 0", x.delay(0, 0), -2);
        judge.due("no PLAN, another n", x.delay(0, 101), -1);
        Told.plan(x, 0, "-");
        judge.due("a PLAN of nowhere is one", x.delay(0, 100), 0);
    }

    private static void promise31() {
        judge.sentence("Promise 31: The most PEOPLE in one ROOM in one of the next n QUARTERS (1 .. 100)");
        // In quarter 99 both are in room 1: 0 of 11 signs, and 9 of 10; till then never.
        OneChairShort x = Told.fresh("r0;r0;10;20", "1" + many("-", 10), many("-", 9) + "1");
        judge.due("crowd(99)", x.crowd(99), 1);
        judge.row("crowd(99)", x, 1, 1);
        judge.due("crowd(100)", x.crowd(100), 2);
        judge.row("crowd(100)", x, 100, 1);
        judge.due("crowd(1)", x.crowd(1), 1);
        x.quarters(99);
        judge.due("the next one", x.crowd(1), 2);
        judge.row("the next one", x, 1, 1);
        x.quarters(1);
        judge.due("now does not count: nobody in the next 9", x.crowd(9), 0);
        judge.sentence("Promise 31: the ROW: after how many QUARTERS first, the first such ROOM then");
        OneChairShort equal = Told.fresh("r1;r1;r1;r1;10;20;30;40", "-3", "-3", "-2", "-2");
        judge.due("two and two", equal.crowd(100), 2);
        judge.row("after 2 first, ROOM 2 ahead of 3", equal, 2, 2);
        judge.due("crowd(1): nobody", equal.crowd(1), 0);
        judge.row("crowd(1): nobody", equal, 1, 0);
        OneChairShort all = Told.fresh("r0;1;2;3;4;5;6;7;8", "0", "0", "0", "0", "0", "0", "0", "0");
        judge.due("eight", all.crowd(100), 8);
        judge.sentence("Promise 31: -2: no ROOMS; NONE: another n");
        int[] wrong = {0, -1, 101, LEAST, MOST};
        for (int n : wrong) {
            judge.due("crowd(" + n + ")", equal.crowd(n), -1);
            judge.due("no ROOMS: crowd(" + n + ")", Told.fresh("5").crowd(n), -1);
        }
        judge.row("the ROW stays", equal, 1, 0);
        judge.due("no ROOMS", Told.fresh("5").crowd(1), -2);
        judge.due("nobody, ROOMS", Told.fresh("r1").crowd(100), 0);
    }

    private static void promise32() {
        judge.sentence("Promise 32: In how many of the next n QUARTERS (0 .. 200) nobody STANDS; the ROW: after how many first (NONE)");
        // Both stand, but are nowhere in quarter 199: 19 of 20 signs, and 9 of 19.
        OneChairShort x = Told.fresh("r0;10;20", many("0", 19) + "-", many("0", 9) + "-" + many("0", 9));
        judge.due("calm(199)", x.calm(199), 0);
        judge.row("calm(199)", x, -1);
        judge.due("calm(200)", x.calm(200), 1);
        judge.row("calm(200)", x, 200);
        judge.due("calm(0)", x.calm(0), 0);
        judge.row("calm(0)", x, -1);
        x.quarters(200);
        judge.due("nobody STANDS now: that is none of the next", x.calm(5), 0);
        judge.row("nobody STANDS now", x, -1);
        OneChairShort ever = Told.fresh("r1;10", "0");
        judge.due("ever", ever.calm(200), 200);
        judge.row("ever: after 1 first", ever, 1);
        OneChairShort second = Told.fresh("r0;10", "0-");
        judge.due("each second", second.calm(5), 2);
        judge.row("each second", second, 2);
        judge.sentence("Promise 32: NONE: another n");
        int[] wrong = {-1, 201, LEAST, MOST};
        for (int n : wrong) {
            judge.due("calm(" + n + ")", second.calm(n), -1);
        }
        judge.row("the ROW stays", second, 2);
    }
}
