/** Promises 41 to 44, and the 512 calls: each sentence that names a boundary case. */
public final class KeptEdgesTest {
    private static final Judge judge = new Judge();
    private static final int LEAST = Integer.MIN_VALUE;
    private static final int MOST = Integer.MAX_VALUE;

    public static void main(String[] args) {
        promise41();
        promise41All();
        promise42();
        promise43();
        promise44();
        lastOf512();
        judge.finish("KeptEdgesTest");
    }

    private static OneChairShort three() {
        return Told.fresh("r1;r2;10;20!;30", "0", "0", "01");
    }

    private static void promise41() {
        judge.sentence("Promise 41: are kept under a number 0 .. 1: true. Refused: others.");
        OneChairShort x = three();
        x.quarters(3);
        judge.due("keep(0)", x.keep(0), true);
        x.quarters(4);
        judge.due("keep(1)", x.keep(1), true);
        int[] wrong = {-1, 2, LEAST, MOST};
        for (int i : wrong) {
            judge.due("keep(" + i + ")", x.keep(i), false);
            judge.due("again(" + i + ")", x.again(i), false);
        }
        x.quarters(5);
        judge.due("again(0)", x.again(0), true);
        judge.due("again(0): NOW", x.count(2), 3);
        judge.due("again(1)", x.again(1), true);
        judge.due("again(1): NOW", x.count(2), 7);
        judge.due("keep(0) of the latter", x.keep(0), true);
        x.quarters(6);
        x.again(0);
        judge.due("again(0) of the latter", x.count(2), 7);
        x.quarters(1);
        judge.due("what goes by does not change what is kept", x.again(0), true);
        judge.due("again(0) once more", x.count(2), 7);
        judge.due("nobody is kept, too", new OneChairShort().keep(1), true);
    }

    private static void promise41All() {
        judge.sentence("Promise 41: Where all are, s, t, a, b, CREDITS, who gave to whom, SICK ones, CHAIRS, NOW");
        OneChairShort x = three();
        x.quarters(6);
        x.lend(0, 2, 30);
        String was = Seen.all(x);
        x.keep(1);
        Told.day(x, "c0=0;c1=8;s0;w1;s2;q9;l1>2*99;q4");
        x.sick(2, true);
        x.undo();
        judge.due("all is otherwise", Seen.butTheRow(x).equals(was), false);
        judge.due("again(1)", x.again(1), true);
        judge.same("again(1)", Seen.butTheRow(x), was.substring(0, was.indexOf(" ROW:")));
        // And nothing else:
        OneChairShort y = three();
        y.keep(0);
        y.sheet(2, 3, 70, 1);
        Told.rule(y, 0, "g");
        Told.rule(y, 1, "g+1");
        Told.plan(y, 0, "1");
        y.told(0, 5);
        y.queue(0);
        y.quarters(0);
        Told.text(y, "abc");
        judge.due("again(0)", y.again(0), true);
        judge.due("AGES stay", y.of(2, 0), 72);
        judge.due("RULE 0 stays", y.of(2, 9), 72);
        judge.due("RULE 1 stays", y.of(2, 10), 73);
        judge.due("what was told stays", y.count(6), 1);
        judge.due("THE TEXT stays", y.count(8), 3);
        judge.row("the ROW stays", y, 0, 0);
        y.quarters(1);
        judge.due("PLANS stay", y.of(0, 2), 1);
    }

    private static void promise42() {
        judge.sentence("Promise 42: Refused: nothing kept, ROOMS or PEOPLE came since.");
        OneChairShort x = three();
        judge.due("nothing kept", x.again(0), false);
        judge.due("nothing kept", x.again(1), false);
        x.keep(1);
        judge.due("nothing kept under 0", x.again(0), false);
        judge.due("kept under 1", x.again(1), true);
        Told.town(x, "r1");
        judge.due("a ROOM came", x.again(1), false);
        x.keep(1);
        judge.due("kept anew", x.again(1), true);
        Told.town(x, "9");
        judge.due("one of PEOPLE came", x.again(1), false);
        x.keep(0);
        judge.due("0 is kept anew", x.again(0), true);
        judge.due("1 is not", x.again(1), false);
        judge.due("an empty town()", x.town(), 0);
        judge.due("nobody came by an empty town()", x.again(0), true);
        Told.town(x, "9;x");
        Told.town(x, "r0;r1;r2;r3");
        judge.due("nobody came by a wrong town()", x.again(0), true);
        OneChairShort none = new OneChairShort();
        judge.due("nothing kept, nobody there", none.again(0), false);
        none.keep(0);
        judge.due("nobody is there as then", none.again(0), true);
        Told.town(none, "5");
        judge.due("one came", none.again(0), false);
    }

    private static void promise43() {
        judge.sentence("Promise 43: NONE for another what");
        OneChairShort x = Told.fresh("r1;r0;r8;10;20;30", "0", "0", "0");
        int[] wrong = {-1, 10, 11, LEAST, MOST};
        for (int what : wrong) {
            judge.due("count(" + what + ")", x.count(what), -1);
        }
        int[] first = {3, 3, 0, 0, 0, 0, 0, 0, 0, 9};
        for (int what = 0; what <= 9; what++) {
            judge.due("ahead of all QUARTERS: count(" + what + ")", x.count(what), first[what]);
        }
        x.quarters(1);
        x.quarters(200);
        x.told(2, 9);
        x.fewest();
        x.sign(0);
        x.end(1);
        // In quarter q sits q % 3, having asked who sat ahead of it: 0 gave 67 times and asked 66, 1 67 and 67, 2 66 and 67.
        int[] then = {3, 3, 201, 0b100, 0b011, 2, 1, 1, 1, 9};
        for (int what = 0; what <= 9; what++) {
            judge.due("then: count(" + what + ")", x.count(what), then[what]);
        }
        judge.row("0 and 2 settle", x, 0b101);
        OneChairShort all = Told.fresh("r8;1;2;3;4;5;6;7;8", "0", "0", "0", "0", "0", "0", "0", "0");
        all.quarters(1);
        judge.due("all sit", all.count(3), 255);
        all.chairs(0, 0);
        all.quarters(1);
        judge.due("all STAND", all.count(4), 255);
        OneChairShort full = Told.fresh("r8;r8;r8;r8");
        judge.due("all CHAIRS there can be", full.count(9), 32);
    }

    private static void promise44() {
        judge.sentence("Promise 44: NoSuchElementException: none such");
        OneChairShort x = Told.fresh("r1;10;20;30", "0", "0", "0");
        int[] none = {0, 1, -1, 8, LEAST, MOST};
        for (int i : none) {
            judge.noSuch("no ROW as yet: row(" + i + ")", () -> x.row(i));
        }
        x.quarters(3);
        judge.due("row(0)", x.row(0), 2);
        judge.due("row(1)", x.row(1), 6);
        int[] beyond = {2, 3, -1, LEAST, MOST};
        for (int i : beyond) {
            judge.noSuch("two numbers: row(" + i + ")", () -> x.row(i));
        }
        judge.sentence("ROW: numbers told last by a call that says so.");
        x.queue(0);
        judge.due("three", x.count(7), 3);
        x.in(0);
        judge.due("one: those behind it are gone", x.count(7), 1);
        judge.noSuch("row(1)", () -> x.row(1));
        x.least(0, 0);
        judge.noSuch("an empty ROW: row(0)", () -> x.row(0));
        OneChairShort all = Told.fresh("r8;1;2;3;4;5;6;7;8", "0", "0", "0", "0", "0", "0", "0", "0");
        all.quarters(1);
        all.queue(0);
        judge.row("eight", all, 0, 1, 2, 3, 4, 5, 6, 7);
    }

    private static void lastOf512() {
        judge.sentence("An object is used for at most 512 calls after it has been made");
        OneChairShort x = Told.fresh("r1;10;20;30", "0", "0", "0");
        // A town of three calls of sign, end twice and town; three PLANS of four calls each.
        int calls = 6 + 12;
        int quarters = 0;
        while (calls < 510) {
            x.quarters(200);
            quarters += 200;
            calls++;
        }
        judge.due("call 511: NOW", x.count(2), quarters);
        judge.due("call 512: who stood most", x.of(0, 7) > quarters / 2, true);
        OneChairShort paid = Told.fresh("10;20");
        for (int k = 0; k < 500; k++) {
            paid.lend(0, 1, 999);
        }
        judge.due("500 times 999", paid.of(0, 8), 499500);
        judge.due("all in one payment", paid.settle(), 1);
        judge.row("all in one payment", paid, 499500);
    }
}
