/** Promises 33 to 37: chairs. */
public final class ChairsTest {
    private static final Judge judge = new Judge();

    public static void main(String[] args) {
        promise33();
        promise34();
        promise35();
        promise36();
        promise37();
        judge.finish("ChairsTest");
    }

    private static void promise33() {
        OneChairShort x = Told.fresh("r1;r1;10!;20;30!;40;50", "0", "0", "1", "1", "1");
        judge.due("more(10): of equal ones the first", x.more(10), 0);
        judge.row("more(10): 1 stands no more", x, 10, 1);
        x.chairs(0, 2);
        judge.due("more(10): now room 1", x.more(10), 1);
        judge.row("more(10): 3 sits first and is asked by 4", x, 10, 3);
        judge.due("more(1): one quarter", x.more(1), 1);
        judge.row("more(1): 3 is freed", x, 1, 3);
        judge.due("more(0)", x.more(0), 0);
        judge.row("more(0): nobody stands less", x, 0, -1);
        judge.due("more changes nothing", x.count(9), 3);
        judge.due("more changes no NOW", x.count(2), 0);
        OneChairShort y = Told.fresh("r1;10;20;30", "0", "0", "0");
        judge.due("more: three with two chairs", y.more(3), 0);
        // As it is each stands 2 of 3. With two chairs: 0 1 sit; 2 asks 0; 0 asks 1: 0 stands 1, 1 stands 1, 2 stands 1.
        judge.row("more: all stand one less, the first", y, 3, 0);
        judge.due("more(4)", y.more(4), 0);
        // As it is 0 stands 2, 1 stands 3, 2 stands 3 of 4. With two chairs: then 1 asks 2: 1, 1, 2.
        judge.row("more(4): 1 stands two less", y, 4, 1);
        y.quarters(9);
        judge.due("more: what was stood ahead does not count", y.more(3), 0);
        judge.due("more: three less", y.row(0), 3);
        OneChairShort full = Told.fresh("r8;r8;10;20", "0", "0");
        judge.due("more: a room of 8 stays so", full.more(5), 0);
        judge.row("more: a room of 8 stays so", full, 0, -1);
        OneChairShort late = Told.fresh("r1;r1;r1;10!;20", "2", "2");
        judge.due("more: the last room", late.more(7), 2);
        judge.row("more: the last room", late, 7, 1);
        judge.due("more(100)", late.more(100), 2);
        judge.row("more(100)", late, 100, 1);
        judge.due("more(101)", late.more(101), -1);
        judge.due("more(-1)", late.more(-1), -1);
        judge.row("more: the row stays", late, 100, 1);
        judge.due("more: no rooms", Told.fresh("5").more(5), -2);
        judge.due("more: NONE ahead of -2", Told.fresh("5").more(101), -1);
        judge.due("more: nobody", Told.fresh("r0").more(5), 0);
    }

    private static void promise34() {
        OneChairShort x = Told.fresh("r1;r0;r3;10;20;30", "0", "0", "1");
        // As it is 2 stand. 0 and 1: 2 of 3; 0 and 2: only 2 in room 1; 1 and 2: only 1 in room 0.
        judge.due("feast(1)", x.feast(1), 1);
        judge.row("feast(1): of equal ones the first pair", x, 0, 2);
        x.chairs(1, 1);
        judge.due("feast(10): 0 and 1 have two chairs for three", x.feast(10), 0);
        judge.row("feast(10): 0 and 2", x, 0, 2);
        judge.due("feast(0)", x.feast(0), 0);
        judge.row("feast(0): the first pair", x, 0, 1);
        x.chairs(0, 3);
        x.chairs(1, 0);
        judge.due("feast: 0 and 1", x.feast(10), 0);
        judge.row("feast: 0 and 1", x, 0, 1);
        OneChairShort last = Told.fresh("r1;r1;r0;r5;10;20;30;40", "0", "1", "2", "2");
        judge.due("feast: 2 and 3", last.feast(4), 0);
        judge.row("feast: 2 and 3", last, 2, 3);
        judge.due("feast changes nothing", last.count(9), 7);
        last.quarters(1);
        judge.due("feast changes no plan", last.of(3, 2), 2);
        judge.due("feast: what was stood ahead does not count", last.feast(4), 0);
        OneChairShort eight = Told.fresh("r4;r5;1;2;3;4;5;6;7;8", "0", "0", "0", "0", "0", "1", "1", "1");
        judge.due("feast: nine chairs", eight.feast(100), 0);
        judge.row("feast: nine chairs", eight, 0, 1);
        judge.due("feast(101)", eight.feast(101), -1);
        judge.due("feast(-1)", eight.feast(-1), -1);
        judge.row("feast: the row stays", eight, 0, 1);
        judge.due("feast: one room", Told.fresh("r1;5;6").feast(5), -2);
        judge.due("feast: NONE ahead of -2", Told.fresh("r1").feast(101), -1);
    }

    private static void promise35() {
        OneChairShort x = Told.fresh("r1;10;20", "0", "0");
        judge.due("told(0, 0)", x.told(0, 0), 1);
        judge.due("told(1, 100)", x.told(1, 100), 2);
        judge.due("told(1, 101)", x.told(1, 101), -1);
        judge.due("told(1, -1)", x.told(1, -1), -1);
        judge.due("told(2, 5)", x.told(2, 5), -1);
        judge.due("told(-1, 5)", x.told(-1, 5), -1);
        judge.due("told: refused, they are two", x.count(6), 2);
        for (int k = 3; k <= 8; k++) {
            judge.due("told: number " + k, x.told(0, 0), k);
        }
        judge.due("told: eight are there", x.told(0, 0), -1);
        judge.due("told: they stay eight", x.count(6), 8);
    }

    private static void promise36() {
        OneChairShort x = Told.fresh("r1;10;20", "0", "0");
        judge.due("forget: nothing", x.forget(), 0);
        x.told(0, 5);
        x.told(0, 6);
        judge.due("forget: two", x.forget(), 2);
        judge.due("forget: nothing more", x.forget(), 0);
        judge.due("forget: none is there", x.count(6), 0);
        judge.due("forget: it does not count any more", x.stolen(3), 1);
        judge.due("forget: told again", x.told(1, 5), 1);
    }

    private static void promise37() {
        OneChairShort x = Told.fresh("r2;r1;r0;10;20;30", "0", "0", "1");
        judge.due("stolen: nothing is told, each with a chair", x.stolen(5), 3);
        judge.row("stolen: nothing is told", x, 1);
        x.told(2, 5);
        judge.due("stolen: 2 stands: it was stolen in 1", x.stolen(5), 2);
        judge.row("stolen: not so without", x, 0);
        judge.due("stolen: of 4 quarters", x.stolen(4), 0);
        judge.row("stolen: of 4 quarters", x, 0);
        x.forget();
        x.told(2, 0);
        judge.due("stolen: 2 sits: not in 1", x.stolen(5), 1);
        judge.row("stolen: so without", x, 1);
        x.told(0, 2);
        x.told(1, 3);
        judge.due("stolen: 0 and 1 by turns", x.stolen(5), 1);
        judge.row("stolen: 0 and 1 by turns", x, 0);
        x.told(0, 3);
        judge.due("stolen: two things of one are told", x.stolen(5), 0);
        judge.due("stolen changes nothing", x.count(9), 3);
        judge.due("stolen changes no NOW", x.count(2), 0);
        judge.due("stolen(0)", x.stolen(0), 0);
        judge.due("stolen(101)", x.stolen(101), -1);
        judge.due("stolen(-1)", x.stolen(-1), -1);
        judge.row("stolen: the row stays", x, 0);
        OneChairShort seated = Told.fresh("r2;10;20", "0", "0");
        seated.quarters(3);
        seated.told(0, 50);
        seated.told(1, 50);
        judge.due("stolen: who sits stands up", seated.stolen(100), 1);
        judge.row("stolen: who sits stands up", seated, 0);
        OneChairShort empty = new OneChairShort();
        judge.due("stolen: no rooms", empty.stolen(5), 0);
        judge.row("stolen: no rooms", empty, 1);
    }
}
