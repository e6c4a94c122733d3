/** Promises 41 to 44: what is kept, counted and told in a row. */
public final class KeptTest {
    private static final Judge judge = new Judge();

    public static void main(String[] args) {
        promise41();
        promise42();
        promise43();
        promise44();
        judge.finish("KeptTest");
    }

    private static OneChairShort three() {
        return Told.fresh("r1;10;20;30", "0", "0", "0");
    }

    private static void promise41() {
        OneChairShort x = three();
        judge.due("keep(0)", x.keep(0), true);
        judge.due("keep(1)", x.keep(1), true);
        judge.due("keep(2)", x.keep(2), false);
        judge.due("keep(-1)", x.keep(-1), false);
        x.quarters(4);
        x.chairs(0, 2);
        x.sick(1, true);
        judge.due("keep(1) again", x.keep(1), true);
        judge.due("keep forgets nothing", x.count(5), 1);
        x.quarters(3);
        x.sick(1, false);
        x.chairs(0, 5);
        judge.due("again(1)", x.again(1), true);
        judge.due("again(1): NOW", x.count(2), 4);
        judge.due("again(1): chairs", x.count(9), 2);
        judge.due("again(1): sick", x.of(1, 1), 1);
        judge.due("again(1): who sits", x.count(3), 1);
        judge.due("again(1): who stands", x.count(4), 6);
        judge.due("again(0)", x.again(0), true);
        judge.due("again(0): NOW", x.count(2), 0);
        judge.due("again(0): chairs", x.count(9), 1);
        judge.due("again(0): well", x.of(1, 1), 0);
        judge.due("keep of nobody", new OneChairShort().keep(0), true);
    }

    private static void promise42() {
        OneChairShort x = three();
        judge.due("again(0): nothing kept", x.again(0), false);
        x.quarters(5);
        int[][] was = new int[3][11];
        for (int person = 0; person < 3; person++) {
            for (int what = 0; what <= 10; what++) {
                was[person][what] = x.of(person, what);
            }
        }
        x.keep(0);
        judge.due("again(1): nothing kept there", x.again(1), false);
        judge.due("again(2)", x.again(2), false);
        judge.due("again(-1)", x.again(-1), false);
        Told.day(x, "q7;s0;l0>1*50;c0=0;q3");
        Told.plan(x, 0, "0-");
        judge.due("again(0)", x.again(0), true);
        for (int person = 0; person < 3; person++) {
            for (int what = 0; what <= 10; what++) {
                judge.due("again: of(" + person + ", " + what + ")", x.of(person, what), was[person][what]);
            }
        }
        judge.due("again: who gave to whom", x.gave(0, 1), 2);
        judge.due("again: chairs", x.count(9), 1);
        judge.due("again: NOW", x.count(2), 5);
        judge.due("again: nothing to undo", x.undo(), -1);
        x.quarters(1);
        judge.due("again: the plan is the new one", x.of(0, 2), -1);
        judge.due("again: twice", x.again(0), true);
        judge.due("again: NOW twice", x.count(2), 5);
        x.told(0, 5);
        x.keep(1);
        x.forget();
        x.again(1);
        judge.due("again: not what was told", x.count(6), 0);
        x.sheet(2, 3, 1, 1);
        x.again(1);
        judge.due("again: not the ages", x.of(2, 0), 3);
        x.quarters(2);
        Told.town(x, "x");
        judge.due("again: a wrong town() brings nobody", x.again(1), true);
        Told.town(x, "r1");
        judge.due("again: a room came since", x.again(0), false);
        judge.due("again: a room came since", x.again(1), false);
        x.keep(0);
        judge.due("again: kept since", x.again(0), true);
        x.quarters(2);
        Told.town(x, "5");
        judge.due("again: one came since", x.again(0), false);
        x.quarters(1);
        judge.due("again: refused, nothing changes", x.count(2), 8);
        judge.due("again: refused, it can be undone", x.count(5), 1);
        OneChairShort empty = new OneChairShort();
        empty.keep(1);
        empty.quarters(9);
        judge.due("again of nobody", empty.again(1), true);
        judge.due("again of nobody: NOW", empty.count(2), 0);
    }

    private static void promise43() {
        OneChairShort x = Told.fresh("r1;r3;10;20;30", "0", "0", "1");
        x.quarters(2);
        x.quarters(1);
        x.told(0, 0);
        x.told(0, 0);
        x.told(0, 0);
        x.queue(0);
        Told.text(x, "abcde");
        int[] due = {3, 2, 3, 0b101, 0b010, 2, 3, 2, 5, 4};
        for (int what = 0; what <= 9; what++) {
            judge.due("count(" + what + ")", x.count(what), due[what]);
        }
        judge.due("count(10)", x.count(10), -1);
        judge.due("count(-1)", x.count(-1), -1);
        judge.due("count(MAX)", x.count(Integer.MAX_VALUE), -1);
        judge.due("count(MIN)", x.count(Integer.MIN_VALUE), -1);
    }

    private static void promise44() {
        OneChairShort x = three();
        judge.noSuch("row(0) of a new one", () -> x.row(0));
        x.quarters(2);
        judge.due("row(0)", x.row(0), 2);
        judge.due("row(1)", x.row(1), 4);
        judge.noSuch("row(2)", () -> x.row(2));
        judge.noSuch("row(-1)", () -> x.row(-1));
        judge.noSuch("row(MIN)", () -> x.row(Integer.MIN_VALUE));
        judge.noSuch("row(MAX)", () -> x.row(Integer.MAX_VALUE));
        x.will(0, 5);
        x.gave(0, 1);
        x.both(0, 1);
        x.often(0, 1, 5);
        x.spares(0, 5);
        x.of(0, 0);
        x.count(3);
        x.sheet(2, 3, 1, 1);
        x.told(0, 1);
        x.forget();
        x.keep(0);
        x.swap(0, 1);
        x.lend(0, 1, 5);
        x.again(0);
        x.undo();
        x.sick(0, true);
        x.chairs(0, 3);
        Told.town(x, "r1;5");
        Told.plan(x, 0, "0");
        Told.rule(x, 0, "s");
        judge.row("calls that tell no row leave it", x, 2, 4);
        x.in(0);
        judge.noSuch("a shorter row has no more", () -> x.row(1));
    }
}
