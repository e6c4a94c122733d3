/** Every call where nothing is there, where only ROOMS or only PEOPLE are, and in a town that is as full as can be. */
public final class FullAndEmptyTest {
    private static final Judge judge = new Judge();
    private static final String PLAN_0 = "000000000000000000000000";

    public static void main(String[] args) {
        empty();
        emptyLooks();
        onlyRooms();
        onlyPeople();
        fullQuarters();
        fullPlaces();
        fullBooks();
        fullWhere();
        fullChairs();
        fullRules();
        fullKept();
        judge.finish("FullAndEmptyTest");
    }

    private static void empty() {
        judge.sentence("No ROOMS, nobody.");
        OneChairShort x = new OneChairShort();
        judge.due("town()", x.town(), 0);
        judge.due("plan(0)", x.plan(0), -100);
        judge.due("rule(0)", x.rule(0), 0);
        judge.due("rule(1)", x.rule(1), 0);
        judge.noSuch("of(0, 0)", () -> x.of(0, 0));
        judge.due("chairs(0, 0)", x.chairs(0, 0), -1);
        judge.due("sick(0, false)", x.sick(0, false), false);
        judge.due("sheet(2, 8, 5, 5)", x.sheet(2, 8, 5, 5), 0);
        judge.due("quarters(200)", x.quarters(200), 0);
        judge.row("quarters(200)", x, 0, 0);
        judge.due("undo()", x.undo(), 0);
        judge.due("in(0)", x.in(0), -1);
        judge.due("asks(0)", x.asks(0), -1);
        judge.due("queue(0)", x.queue(0), -1);
        judge.due("day()", x.day(), 0);
        judge.row("day()", x, 0, 0, 0);
        judge.due("day() of q99", Told.day(x, "q99"), 1);
        judge.row("day() of q99", x, 99, 0, 0);
        judge.noSuch("will(0, 0)", () -> x.will(0, 0));
        judge.due("longest(0, 0)", x.longest(0, 0), -1);
        judge.due("gave(0, 1)", x.gave(0, 1), -1);
        judge.due("pair()", x.pair(), 0);
        judge.row("pair()", x);
        judge.due("lend(0, 1, 5)", x.lend(0, 1, 5), false);
        judge.due("fewest()", x.fewest(), 0);
        judge.row("fewest()", x);
        judge.due("settle()", x.settle(), 0);
        judge.row("settle()", x, 0);
        judge.due("told(0, 0)", x.told(0, 0), -1);
        judge.due("forget()", x.forget(), 0);
        judge.due("swap(0, 1)", x.swap(0, 1), false);
        judge.due("again(0)", x.again(0), false);
        judge.due("keep(0)", x.keep(0), true);
        judge.due("again(0) then", x.again(0), true);
    }

    private static void emptyLooks() {
        OneChairShort x = new OneChairShort();
        judge.due("least(0, 0)", x.least(0, 0), -1);
        judge.due("together(0, 1, 0)", x.together(0, 1, 0), -1);
        judge.due("both(0, 1)", x.both(0, 1), -1);
        judge.due("often(0, 1, 0)", x.often(0, 1, 0), -1);
        judge.due("exchange(100)", x.exchange(100), -2);
        judge.due("delay(0, 0)", x.delay(0, 0), -1);
        judge.due("crowd(100)", x.crowd(100), -2);
        judge.due("more(100)", x.more(100), -2);
        judge.due("feast(100)", x.feast(100), -2);
        judge.due("even(200)", x.even(200), -2);
        judge.row("no ROW as yet", x);
        judge.due("calm(200)", x.calm(200), 200);
        judge.row("calm(200)", x, 1);
        judge.due("stolen(100)", x.stolen(100), 0);
        judge.row("stolen(100)", x, 1);
        judge.noSuch("spares(0, 0)", () -> x.spares(0, 0));
        judge.due("round()", x.round(), 1);
        judge.row("round()", x, 0);
        judge.due("all CHAIRS", x.count(9), 0);
    }

    private static void onlyRooms() {
        judge.sentence("nobody");
        OneChairShort x = Told.fresh("r0;r8");
        judge.due("quarters(3)", x.quarters(3), 0);
        judge.row("quarters(3)", x, 0, 0);
        judge.due("in(1)", x.in(1), 0);
        judge.row("in(1)", x, 0);
        judge.due("asks(1)", x.asks(1), -2);
        judge.due("queue(1)", x.queue(1), 0);
        judge.row("queue(1)", x);
        judge.due("crowd(100)", x.crowd(100), 0);
        judge.row("crowd(100)", x, 1, 0);
        judge.due("calm(0)", x.calm(0), 0);
        judge.row("calm(0)", x, -1);
        judge.due("more(100)", x.more(100), 0);
        judge.row("more(100)", x, 0, -1);
        judge.due("feast(100)", x.feast(100), 0);
        judge.row("feast(100)", x, 0, 1);
        judge.due("stolen(100): of the one that has one", x.stolen(100), 2);
        judge.due("exchange(100)", x.exchange(100), -2);
        judge.due("even(0)", x.even(0), -2);
        judge.due("least(0, 5)", x.least(0, 5), -1);
        judge.due("round()", x.round(), 1);
        judge.due("sheet(3, 0, 0, 0)", x.sheet(3, 0, 0, 0), -3);
    }

    private static void onlyPeople() {
        judge.sentence("-2: no ROOMS");
        OneChairShort x = Told.fresh("5;6!", "-", "--");
        judge.due("quarters(3)", x.quarters(3), 0);
        judge.row("quarters(3)", x, 0, 0);
        judge.due("will(0, 30)", x.will(0, 30), 0);
        judge.due("longest(0, 200)", x.longest(0, 200), 0);
        judge.row("longest(0, 200)", x, 0);
        judge.due("both(0, 1)", x.both(0, 1), -2);
        judge.due("often(0, 1, 200)", x.often(0, 1, 200), 0);
        judge.due("exchange(100)", x.exchange(100), 0);
        judge.row("exchange(100)", x, 0, 1, 0);
        judge.due("delay(1, 100)", x.delay(1, 100), 0);
        judge.row("delay(1, 100)", x, 0);
        judge.due("even(200)", x.even(200), 0);
        judge.row("even(200)", x, 0, 0, 0, 0);
        judge.due("spares(1, 100)", x.spares(1, 100), 0);
        judge.due("round(): of two signs", x.round(), 2);
        judge.row("round(): of two signs", x, 0);
        judge.due("least(0, 0)", x.least(0, 0), -2);
        judge.due("together(0, 1, 0)", x.together(0, 1, 0), -2);
        judge.due("crowd(1)", x.crowd(1), -2);
        judge.due("more(0)", x.more(0), -2);
        judge.due("feast(0)", x.feast(0), -2);
        judge.due("stolen(0)", x.stolen(0), 0);
        judge.row("stolen(0)", x, 1);
    }

    /** Four ROOMS with a CHAIR and two PEOPLE each, PLANS of 24 signs: in each ROOM they sit by turns, the first one first. */
    private static OneChairShort full() {
        OneChairShort x = Told.fresh("r1;r1;r1;r1;11;12;13;14;15;16;17;18");
        for (int person = 0; person < 8; person++) {
            Told.plan(x, person, PLAN_0.replace('0', (char) ('0' + person / 2)));
        }
        return x;
    }

    private static void fullQuarters() {
        judge.sentence("ROOMS 0 .. (at most 4): .. PEOPLE 0 .. (at most 8)");
        OneChairShort x = full();
        judge.due("quarters(1)", x.quarters(1), 0);
        judge.row("quarters(1)", x, 4, 4);
        judge.due("who sit", x.count(3), 0b01010101);
        judge.due("who STAND", x.count(4), 0b10101010);
        judge.due("quarters(200)", x.quarters(200), 800);
        judge.row("quarters(200)", x, 4, 800);
        judge.due("who sit", x.count(3), 0b01010101);
        judge.due("in(3)", x.in(3), 0b11000000);
        judge.row("in(3)", x, 0b01000000);
        judge.due("asks(3)", x.asks(3), 7);
        judge.row("asks(3)", x, 6);
        judge.due("queue(3)", x.queue(3), 2);
        judge.row("queue(3)", x, 7, 6);
        judge.due("will(7, 30)", x.will(7, 30), 0x2AAAAAAA);
        judge.due("will(6, 30)", x.will(6, 30), 0x15555555);
        judge.due("longest(7, 200)", x.longest(7, 200), 1);
        judge.row("longest(7, 200): as it is now", x, 0);
        for (int what = 0; what <= 10; what++) {
            int[] due = {18, 0, 3, 0, 0, 1, 100, 101, 0, 1, 0};
            judge.due("of(7, " + what + ")", x.of(7, what), due[what]);
        }
        judge.due("undo()", x.undo(), 1);
        judge.due("undo()", x.undo(), 0);
        for (int person = 0; person < 8; person++) {
            for (int what = 2; what <= 8; what++) {
                judge.due("all undone: of(" + person + ", " + what + ")", x.of(person, what), what == 2 ? -1 : 0);
            }
        }
        // All eight in one ROOM with one CHAIR: they sit in the order of their numbers.
        OneChairShort one = Told.fresh("r1;11;12;13;14;15;16;17;18", "0", "0", "0", "0", "0", "0", "0", "0");
        for (int q = 0; q < 20; q++) {
            judge.due("one asks, but in the first", one.quarters(1), q == 0 ? 0 : 1);
            judge.due("one of eight sits", one.count(3), 1 << q % 8);
        }
        one.queue(0);
        judge.row("queue(0)", one, 4, 5, 6, 7, 0, 1, 2, 3);
    }

    /** The last one of all is in each ROOM in turn, and all the others in the one behind it: nobody else is counted. */
    private static void fullPlaces() {
        for (int room = 0; room < 4; room++) {
            OneChairShort x = Told.fresh("r0;r0;r0;r0;11;12;13;14;15;16;17;18");
            int others = (room + 1) % 4;
            for (int person = 0; person < 8; person++) {
                Told.plan(x, person, "" + (person == 7 ? room : others));
            }
            judge.due("none as yet: calm(0)", x.calm(0), 0);
            x.quarters(1);
            judge.due("in(" + room + ")", x.in(room), 128);
            judge.row("in(" + room + ")", x, 0);
            judge.due("in(" + others + ")", x.in(others), 127);
            judge.due("who STAND", x.count(4), 255);
            judge.due("who sit", x.count(3), 0);
            x.chairs(room, 1);
            x.chairs(others, 7);
            judge.due("then all sit: calm(1)", x.calm(1), 1);
            x.quarters(1);
            judge.row("then all sit", x, 0, 0);
            judge.due("who STAND then", x.count(4), 0);
            judge.due("who sit then", x.count(3), 255);
            judge.due("in(" + room + ") then", x.in(room), 128);
            judge.row("in(" + room + ") then", x, 128);
        }
    }

    private static void fullBooks() {
        OneChairShort x = full();
        x.quarters(200);
        // In each ROOM 199 asked, the second one first.
        judge.due("gave(6, 7)", x.gave(6, 7), 100);
        judge.due("gave(7, 6)", x.gave(7, 6), 99);
        judge.due("gave(7, 0)", x.gave(7, 0), 0);
        judge.due("pair()", x.pair(), 199);
        judge.row("pair()", x, 0, 1);
        judge.due("CREDIT of 6", x.of(6, 8), 1);
        judge.due("CREDIT of 7", x.of(7, 8), -1);
        judge.due("fewest()", x.fewest(), 4);
        judge.row("fewest()", x, 0b00000011, 0b00001100, 0b00110000, 0b11000000);
        x.lend(7, 0, 999);
        // 0: -998, 7: 998; the others 1 and -1.
        judge.due("fewest() then", x.fewest(), 4);
        judge.row("fewest() then", x, 0b10000001, 0b00000110, 0b00011000, 0b01100000);
        judge.due("settle()", x.settle(), 4);
        judge.row("settle()", x, 1001);
        for (int person = 0; person < 8; person++) {
            judge.due("settled: CREDIT of " + person, x.of(person, 8), 0);
        }
        judge.due("settled: fewest()", x.fewest(), 0);
    }

    private static void fullWhere() {
        OneChairShort x = full();
        // In ROOM 0 it stands twice, as 1 is ahead of it, and asks 1, who sits then; 0 asks it; in ROOM 3 it asks 6, who is alone.
        judge.due("least(7, 5)", x.least(7, 5), 3);
        judge.row("least(7, 5)", x, 0, 0, 0, 0, 3);
        judge.due("least(7, 2)", x.least(7, 2), 1);
        judge.row("least(7, 2)", x, 0, 3);
        judge.due("together(6, 7, 3)", x.together(6, 7, 3), 0);
        judge.row("together(6, 7, 3)", x, 0, 0, 0, 0, 0, 0);
        judge.due("both(6, 7)", x.both(6, 7), -2);
        judge.due("often(6, 7, 200)", x.often(6, 7, 200), 0);
        judge.due("exchange(100)", x.exchange(100), 400);
        judge.row("exchange(100)", x, 0, 1, 0);
        judge.due("delay(7, 100)", x.delay(7, 100), 50);
        judge.row("delay(7, 100)", x, 0);
        judge.due("crowd(100)", x.crowd(100), 2);
        judge.row("crowd(100)", x, 1, 0);
        judge.due("calm(200)", x.calm(200), 0);
        judge.row("calm(200)", x, -1);
        judge.due("swap(0, 7)", x.swap(0, 7), true);
        x.quarters(1);
        judge.due("swap(0, 7): 0 is in ROOM 3", x.of(0, 2), 3);
        judge.due("swap(0, 7): 7 is in ROOM 0", x.of(7, 2), 0);
        judge.due("swap(0, 7): the first in each ROOM sits", x.count(3), 0b00010111);
        // ROOM 3 gets two CHAIRS: 6 and 7 sit there together from the first QUARTER on.
        OneChairShort two = full();
        two.chairs(3, 2);
        judge.due("two CHAIRS: together(6, 7, 3)", two.together(6, 7, 3), 3);
        judge.row("two CHAIRS: together(6, 7, 3)", two, 3, 3, 3, 3, 3, 3);
        judge.due("two CHAIRS: both(6, 7)", two.both(6, 7), 1);
        judge.due("two CHAIRS: often(7, 6, 200)", two.often(7, 6, 200), 200);
        // Without 6 and 7 the first ROOM in which one of them can sit all the time is 3, too.
        judge.due("two CHAIRS: least(7, 5)", two.least(7, 5), 0);
        judge.row("two CHAIRS: least(7, 5)", two, 3, 3, 3, 3, 3);
    }

    private static void fullChairs() {
        OneChairShort x = full();
        judge.due("more(100)", x.more(100), 0);
        judge.row("more(100)", x, 100, 0);
        judge.due("feast(100)", x.feast(100), 400);
        judge.row("feast(100)", x, 0, 1);
        x.chairs(2, 8);
        judge.due("8 in ROOM 2: feast(100)", x.feast(100), 200);
        judge.row("8 in ROOM 2: feast(100)", x, 0, 2);
        x.chairs(2, 1);
        for (int k = 0; k < 8; k++) {
            judge.due("told(" + k + ", ..)", x.told(k, k < 6 ? 50 : 100), k + 1);
        }
        judge.due("6 and 7 stand all the time: stolen(100) in ROOM 3", x.stolen(100), 8);
        judge.row("stolen(100)", x, 0);
        judge.due("forget()", x.forget(), 8);
        for (int k = 0; k < 8; k++) {
            x.told(k, 50);
        }
        judge.due("as it is: stolen(100)", x.stolen(100), 0);
        judge.row("as it is: stolen(100)", x, 1);
        judge.due("all CHAIRS", x.count(9), 4);
    }

    private static void fullRules() {
        OneChairShort x = full();
        // By AGE the second one of each ROOM sits first: all stand 100 of 200.
        judge.due("even(200)", x.even(200), 0);
        judge.row("even(200)", x, 0, 0, 0, 0);
        judge.due("even(199)", x.even(199), 0);
        judge.row("even(199)", x, 1, 1, 1, 1);
        judge.due("spares(6, 100)", x.spares(6, 100), 50);
        judge.due("spares(7, 100)", x.spares(7, 100), 49);
        // By turns from the first QUARTER on, but by 24 signs.
        judge.due("round()", x.round(), 25);
        judge.row("round()", x, 1);
        x.sick(6, true);
        judge.due("6 keeps its CHAIR: round()", x.round(), -2);
        judge.row("6 keeps its CHAIR: the ROW stays", x, 1);
        x.sick(6, false);
        Told.plan(x, 7, "33333333333333333333333");
        judge.due("24 and 23 signs: 552", x.round(), -2);
        Told.rule(x, 0, "1+1+1+1+1+1+1+1+1+1+1+1+1+1+1+1+1+1+1+b");
        Told.rule(x, 1, "((((a))))*((((1))))+((((i))))*((((0))))-");
        judge.due("RULE 0 of 39 signs", x.of(7, 9), 19);
        judge.due("RULE 1 of 40 signs, its end too early: as there is none", x.of(7, 10), 0);
        Told.rule(x, 1, "((((a))))*((((1))))+((((i))))*((((0))))");
        x.quarters(9);
        judge.due("RULE 1 of 39 signs: a", x.of(7, 10), x.of(7, 6));
        judge.due("RULE 0: 19 and b", x.of(7, 9), 19 + x.of(7, 7));
    }

    private static void fullKept() {
        OneChairShort x = full();
        x.quarters(7);
        x.keep(0);
        x.again(0);
        String was = Seen.butTextAndRow(x);
        x.quarters(8);
        for (int person = 0; person < 8; person++) {
            x.sick(person, true);
        }
        for (int room = 0; room < 4; room++) {
            x.chairs(room, 8);
        }
        judge.due("again(0)", x.again(0), true);
        judge.same("again(0)", Seen.butTextAndRow(x), was);
        judge.due("no more of PEOPLE", Told.town(x, "5"), -1);
        judge.due("no more ROOMS", Told.town(x, "r1"), -1);
        judge.due("none came: again(0)", x.again(0), true);
        judge.due("sheet(2, 8, 99, 0)", x.sheet(2, 8, 99, 0), 792);
    }
}
