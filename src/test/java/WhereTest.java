/** Promises 24 to 32: where to go. */
public final class WhereTest {
    private static final Judge judge = new Judge();

    public static void main(String[] args) {
        promise24();
        promise25();
        promise26();
        promise27();
        promise28();
        promise29();
        promise30();
        promise31();
        promise32();
        judge.finish("WhereTest");
    }

    private static OneChairShort three() {
        return Told.fresh("r1;10;20;30", "0", "0", "0");
    }

    private static void promise24() {
        OneChairShort x = Told.fresh("r1;r2;10;20;30;40", "0", "0", "1", "1");
        judge.due("least(1, 0)", x.least(1, 0), 0);
        judge.row("least(1, 0)", x);
        judge.due("least(0, 5)", x.least(0, 5), 2);
        // Quarter 0 it sits; whenever 1 stood it asks: to sit again, it goes where it can ask, or is not asked.
        judge.due("least: five rooms", x.count(7), 5);
        judge.due("least(3, 1): the last of three in room 1, second of two in room 0", x.least(3, 1), 0);
        judge.row("least(3, 1)", x, 1);
        judge.due("least(1, 1): in room 0 it is second, in room 1 first", x.least(1, 1), 0);
        judge.row("least(1, 1)", x, 1);
        judge.due("least changes nothing", x.count(2), 0);
        x.quarters(1);
        judge.due("least changes no plan", x.of(1, 2), 0);
        OneChairShort none = Told.fresh("r0;r1;10;20!", "-", "1");
        none.quarters(2);
        judge.due("least: no chair to be had", none.least(0, 5), 5);
        judge.row("least: of as few the least row", none, 0, 0, 0, 0, 0);
        none.sick(1, false);
        judge.due("least: it stands first, then asks, is asked, asks again, is asked", none.least(0, 4), 2);
        judge.row("least: room 0 first is as good", none, 0, 1, 0, 1);
        OneChairShort always = Told.fresh("r1;r1;10;20", "-----", "0");
        judge.due("least: always somewhere, whatever its plan is", always.least(0, 3), 0);
        judge.row("least: always somewhere: it sits first in room 0, and goes when 1 would ask", always, 0, 1, 1);
        judge.due("least: no rooms", Told.fresh("5").least(0, 0), -2);
        judge.due("least(2, 1)", none.least(2, 1), -1);
        judge.due("least(-1, 1)", none.least(-1, 1), -1);
        judge.due("least(0, 6)", none.least(0, 6), -1);
        judge.due("least(0, -1)", none.least(0, -1), -1);
        judge.row("least: the row stays", none, 0, 1, 0, 1);
        judge.due("least: NONE ahead of -2", Told.fresh("5").least(1, 0), -1);
    }

    private static void promise25() {
        OneChairShort x = Told.fresh("r1;r2;10;20", "0", "0");
        judge.due("together(0, 1, 3)", x.together(0, 1, 3), 3);
        judge.row("together(0, 1, 3)", x, 1, 1, 1, 1, 1, 1);
        judge.due("together(1, 0, 0)", x.together(1, 0, 0), 0);
        judge.row("together(1, 0, 0)", x);
        OneChairShort taken = Told.fresh("r2;r1;r2;10;20!;30!;40", "-", "0", "-", "0");
        taken.quarters(1);
        // 1 and 3 have the chairs of room 0; room 2 is free.
        judge.due("together(0, 3, 1)", taken.together(0, 3, 1), 1);
        judge.row("together(0, 3, 1)", taken, 2, 2);
        judge.due("together(3, 1, 1)", taken.together(3, 1, 1), 1);
        judge.row("together(3, 1, 1)", taken, 0, 0);
        judge.due("together(0, 1, 1): 3 sits in room 0 and 1 would, 0 has not stood", taken.together(0, 1, 1), 1);
        judge.row("together(0, 1, 1)", taken, 2, 2);
        taken.chairs(2, 1);
        judge.due("together(0, 1, 2): 0 stands in room 0, then asks 3", taken.together(0, 1, 2), 1);
        judge.row("together(0, 1, 2): the least row", taken, 0, 0, 0, 0);
        judge.due("together(1, 0, 2): the other way round", taken.together(1, 0, 2), 1);
        judge.row("together(1, 0, 2)", taken, 0, 0, 0, 0);
        OneChairShort ways = Told.fresh("r1;r1;r1;10;20;30", "-", "-", "-");
        judge.due("together: single chairs", ways.together(1, 0, 3), 0);
        judge.row("together: single chairs", ways, 0, 0, 0, 0, 0, 0);
        OneChairShort order = Told.fresh("r1;r2;10;20!;30!", "-", "1", "1");
        order.quarters(1);
        // Room 1 is full of 1 and 2: 0 can ask neither, and 1 leaves its chair to 0 when it goes to stand in room 0.
        judge.due("together: 0 and 1", order.together(0, 1, 1), 0);
        judge.row("together: 0 and 1", order, 0, 0);
        order.chairs(1, 3);
        judge.due("together(0, 1, 1): a third chair", order.together(0, 1, 1), 1);
        judge.row("together(0, 1, 1): a third chair", order, 1, 1);
        judge.due("together(0, 0, 1)", order.together(0, 0, 1), -1);
        judge.due("together(0, 3, 1)", order.together(0, 3, 1), -1);
        judge.due("together(-1, 0, 1)", order.together(-1, 0, 1), -1);
        judge.due("together(0, 1, 4)", order.together(0, 1, 4), -1);
        judge.due("together(0, 1, -1)", order.together(0, 1, -1), -1);
        judge.row("together: the row stays", order, 1, 1);
        judge.due("together: no rooms", Told.fresh("5;6").together(0, 1, 2), -2);
        judge.due("together: NONE ahead of -2", Told.fresh("5;6").together(0, 1, 4), -1);
    }

    private static void promise26() {
        OneChairShort x = Told.fresh("r2;r1;10;20;30", "0", "10", "1");
        judge.due("both(0, 1): 1 comes in quarter 1", x.both(0, 1), 2);
        judge.due("both(1, 0)", x.both(1, 0), 2);
        x.quarters(2);
        judge.due("both sit: that is now, not after", x.both(0, 1), 2);
        judge.due("both(0, 2): in unlike rooms", x.both(0, 2), -2);
        judge.due("both(0, 0)", x.both(0, 0), -1);
        judge.due("both(0, 3)", x.both(0, 3), -1);
        judge.due("both(-1, 0)", x.both(-1, 0), -1);
        judge.due("both changes nothing", x.count(2), 2);
        OneChairShort far = Told.fresh("r2;1;2;3", "0----------------------", "0---------------------", "-");
        far.quarters(1);
        judge.due("both: not within 200", far.both(0, 1), -2);
        // 23 and 22 signs: together in quarters that both divide: 506
        far.quarters(200);
        far.quarters(105);
        judge.due("NOW", far.count(2), 306);
        judge.due("both: not within 200, but the 201st", far.both(0, 1), -2);
        far.quarters(1);
        judge.due("both: after 200", far.both(0, 1), 200);
    }

    private static void promise27() {
        OneChairShort x = Told.fresh("r2;r1;10;20;30", "0", "10", "1");
        judge.due("often(0, 1, 0)", x.often(0, 1, 0), 0);
        judge.due("often(0, 1, 1)", x.often(0, 1, 1), 0);
        judge.due("often(0, 1, 2)", x.often(0, 1, 2), 1);
        judge.due("often(1, 0, 9)", x.often(1, 0, 9), 4);
        judge.due("often(0, 1, 200)", x.often(0, 1, 200), 100);
        judge.due("often(0, 2, 200)", x.often(0, 2, 200), 0);
        judge.due("often(0, 1, 201)", x.often(0, 1, 201), -1);
        judge.due("often(0, 1, -1)", x.often(0, 1, -1), -1);
        judge.due("often(1, 1, 5)", x.often(1, 1, 5), -1);
        judge.due("often(3, 1, 5)", x.often(3, 1, 5), -1);
        judge.due("often(1, 3, 5)", x.often(1, 3, 5), -1);
        judge.due("often changes nothing", x.count(2), 0);
    }

    private static void promise28() {
        OneChairShort x = Told.fresh("r1;r1;10;20;30", "01", "1");
        judge.due("swap(0, 1)", x.swap(0, 1), true);
        x.quarters(2);
        judge.due("swap: 0 is in room 1", x.of(0, 2), 1);
        judge.due("swap: 1 is in room 1 in quarter 1", x.of(1, 2), 1);
        x.quarters(1);
        judge.due("swap: 1 is in room 0 in quarter 2", x.of(1, 2), 0);
        judge.due("swap(1, 2): with no plan", x.swap(1, 2), true);
        x.quarters(1);
        judge.due("swap: 1 is nowhere", x.of(1, 2), -1);
        judge.due("swap: 2 is in room 1 in quarter 3", x.of(2, 2), 1);
        judge.due("swap(2, 2)", x.swap(2, 2), false);
        judge.due("swap(2, 3)", x.swap(2, 3), false);
        judge.due("swap(-1, 2)", x.swap(-1, 2), false);
        x.quarters(1);
        judge.due("swap: refused, nothing changed", x.of(2, 2), 0);
    }

    private static void promise29() {
        OneChairShort x = Told.fresh("r1;r1;10;20;30;40", "01", "01", "10", "-");
        // As it is: one stands each quarter (of three in two rooms: two are in one).
        judge.due("exchange(10)", x.exchange(10), 10);
        judge.row("exchange(10): the first of equal ones", x, 0, 1, 0);
        judge.due("exchange(0)", x.exchange(0), 0);
        judge.row("exchange(0)", x, 0, 1, 0);
        OneChairShort y = Told.fresh("r1;r0;10;20;30", "00", "1-", "-0");
        // As it is: quarter 0: 1 stands; quarter 1: 0 or 2 stands. 1 and 2 exchanged: 0, 2 and 1 meet as badly.
        judge.due("exchange of which none helps", y.exchange(2), 2);
        judge.row("exchange of which none helps", y, 0, 1, 0);
        OneChairShort z = Told.fresh("r1;r1;10;20;30", "--0", "0-", "0-");
        // 0 stays through quarters 2, 5, 8, ..; 1 and 2 meet in 0, 2, 4.
        judge.due("exchange(6) is by counting", z.exchange(6), counted());
        judge.due("exchange changes nothing", z.count(2), 0);
        OneChairShort worse = Told.fresh("r1;10;20", "0-", "-0");
        worse.quarters(1);
        judge.due("exchange: two who alternate", worse.exchange(10), 0);
        judge.row("exchange: as it is", worse, 0, 1, 0);
        OneChairShort below = Told.fresh("r1;10;20", "000-", "-");
        Told.plan(below, 1, "---0");
        judge.due("exchange: alternate still", below.exchange(100), 0);
        x.quarters(7);
        judge.due("exchange: what was stood ahead does not count", x.exchange(10), 10);
        judge.row("exchange: what was stood ahead does not count", x, 0, 1, 0);
        judge.due("exchange(101)", x.exchange(101), -1);
        judge.due("exchange(-1)", x.exchange(-1), -1);
        judge.row("exchange: the row stays", x, 0, 1, 0);
        judge.due("exchange: one alone", Told.fresh("r1;5").exchange(5), -2);
        judge.due("exchange: NONE ahead of -2", Told.fresh("r1;5").exchange(101), -1);
        judge.due("exchange without rooms", Told.fresh("5;6").exchange(5), 0);
    }

    /** Who is in room 0 in the next 6 quarters tells how many stand: exchanging plans changes nobody's number. */
    private static int counted() {
        String[] plans = {"--0", "0-", "0-"};
        int stood = 0;
        for (int q = 0; q < 6; q++) {
            int there = 0;
            for (String plan : plans) {
                there += plan.charAt(q % plan.length()) == '0' ? 1 : 0;
            }
            stood += Math.max(0, there - 1);
        }
        return stood;
    }

    private static void promise30() {
        OneChairShort x = Told.fresh("r1;r1;10!;20", "0", "0-1-");
        judge.due("delay(1, 4)", x.delay(1, 4), 1);
        judge.row("delay(1, 4): all are as good, the first", x, 0);
        judge.due("delay(1, 1): begun with -", x.delay(1, 1), 0);
        judge.row("delay(1, 1): the first such", x, 1);
        judge.due("delay(1, 3): -1-", x.delay(1, 3), 0);
        judge.row("delay(1, 3)", x, 1);
        judge.due("delay(1, 0)", x.delay(1, 0), 0);
        judge.row("delay(1, 0)", x, 0);
        x.quarters(1);
        judge.due("delay: in quarter 1 the sign (1 + k) % 4", x.delay(1, 1), 0);
        judge.row("delay: in quarter 1", x, 0);
        x.quarters(3);
        judge.due("delay: in quarter 4 as in 0", x.delay(1, 2), 0);
        judge.row("delay: in quarter 4 as in 0", x, 1);
        judge.due("delay changes nothing", x.count(2), 4);
        OneChairShort late = Told.fresh("r0;r1;10", "00010");
        judge.due("delay(0, 2)", late.delay(0, 2), 1);
        judge.row("delay(0, 2): 01 from the third on", late, 2);
        judge.due("delay(0, 1)", late.delay(0, 1), 0);
        judge.row("delay(0, 1): the fourth", late, 3);
        judge.due("delay(0, 100)", late.delay(0, 100), 80);
        judge.row("delay(0, 100)", late, 0);
        judge.due("delay(0, 101)", late.delay(0, 101), -1);
        judge.due("delay(0, -1)", late.delay(0, -1), -1);
        judge.due("delay(1, 1)", late.delay(1, 1), -1);
        judge.due("delay(-1, 1)", late.delay(-1, 1), -1);
        judge.row("delay: the row stays", late, 0);
        late.plan(0);
        judge.due("delay: no plan", late.delay(0, 1), -2);
        judge.due("delay: NONE ahead of -2", late.delay(0, 101), -1);
    }

    private static void promise31() {
        OneChairShort x = Told.fresh("r1;r1;10;20;30", "01-", "10-", "0-1");
        judge.due("crowd(1): 0 and 2 in room 0", x.crowd(1), 2);
        judge.row("crowd(1)", x, 1, 0);
        judge.due("crowd(100): never more", x.crowd(100), 2);
        judge.row("crowd(100): first", x, 1, 0);
        x.quarters(1);
        judge.due("crowd(2)", x.crowd(2), 1);
        judge.row("crowd(2): the first room then", x, 1, 0);
        judge.due("crowd(3)", x.crowd(3), 2);
        judge.row("crowd(3): after how many", x, 3, 0);
        judge.due("crowd(0)", x.crowd(0), -1);
        judge.due("crowd(101)", x.crowd(101), -1);
        judge.row("crowd: the row stays", x, 3, 0);
        OneChairShort later = Told.fresh("r1;r1;10;20", "01", "-1");
        judge.due("crowd: in room 1", later.crowd(5), 2);
        judge.row("crowd: in room 1", later, 2, 1);
        OneChairShort nobody = Told.fresh("r1;r1;10");
        judge.due("crowd: nobody anywhere", nobody.crowd(5), 0);
        judge.row("crowd: nobody anywhere", nobody, 1, 0);
        judge.due("crowd: no rooms", Told.fresh("5").crowd(5), -2);
        judge.due("crowd: NONE ahead of -2", Told.fresh("5").crowd(0), -1);
    }

    private static void promise32() {
        OneChairShort x = Told.fresh("r1;10;20", "0", "000-");
        judge.due("calm(3)", x.calm(3), 0);
        judge.row("calm(3): none", x, -1);
        judge.due("calm(4)", x.calm(4), 1);
        judge.row("calm(4)", x, 4);
        judge.due("calm(200)", x.calm(200), 50);
        judge.row("calm(200)", x, 4);
        judge.due("calm(0)", x.calm(0), 0);
        judge.row("calm(0)", x, -1);
        judge.due("calm(201)", x.calm(201), -1);
        judge.due("calm(-1)", x.calm(-1), -1);
        judge.row("calm: the row stays", x, -1);
        judge.due("calm changes nothing", x.count(2), 0);
        judge.due("calm: nobody", new OneChairShort().calm(7), 7);
        judge.due("calm: three with a chair", three().calm(9), 0);
    }
}
